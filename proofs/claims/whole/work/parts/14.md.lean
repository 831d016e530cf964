/-! X10_in -/
def rX10_in : Room := { frames := 0, cells := 0, slots := 0, locals := 0 }
def FX10_in (x1 : Int32) (x2 : Int32) (x3 : Int32) (M : Mm) : Option Int32 :=
  (if x1 < x2 then some 0 else (if x3 < x1 then some 0 else some 1))
theorem eFX10_in (x1 : Int32) (x2 : Int32) (x3 : Int32) (M : Mm) : FX10_in x1 x2 x3 M = (if x1 < x2 then some 0 else (if x3 < x1 then some 0 else some 1)) := rfl
set_option maxRecDepth 20000 in
theorem TX10_in {l : Launch} {G : va_G} {tc : Nat → ClassId} {D : Nat → Nat} {x1 : Int32} {x2 : Int32} {x3 : Int32} {M : Mm} {R : Int32} (h : FX10_in x1 x2 x3 M = some R) : WP l G tc D lay (fun _ => True) yX10_in.cls cX10_in 3 rX10_in (.code yX10_in cX10_in 3 (some .boolean)) 0 (entL 3 [.int x1, .int x2, .int x3]) [] M (RetQ cX10_in (some .boolean) (RQI R M)) := by
  show WP l G tc D lay (fun _ => True) RX10 cX10_in 3 rX10_in (.code yX10_in cX10_in 3 (some .boolean)) 0 [some (.int x1), some (.int x2), some (.int x3)] [] M (RetQ cX10_in (some .boolean) (RQI R M))
  unfold FX10_in at h
  refine WP.iload_n dX10_in_0 rfl rfl ?_
  refine WP.iload_n dX10_in_1 rfl rfl ?_
  refine WP.icmp_lt (tgt := 14) dX10_in_2 (by decide) (fun c1 => ?_) (fun c1 => ?_)
  · rw [if_pos c1] at h
    refine WP.iconst (v := 0) dX10_in_14 (by decide) ?_
    cases h
    exact WP.zret dX10_in_15 (by decide) ⟨rfl, rfl⟩
  · rw [if_neg c1] at h
    refine WP.iload_n dX10_in_5 rfl rfl ?_
    refine WP.iload_n dX10_in_6 rfl rfl ?_
    refine WP.icmp_gt (tgt := 14) dX10_in_7 (by decide) (fun c2 => ?_) (fun c2 => ?_)
    · rw [if_pos c2] at h
      refine WP.iconst (v := 0) dX10_in_14 (by decide) ?_
      cases h
      exact WP.zret dX10_in_15 (by decide) ⟨rfl, rfl⟩
    · rw [if_neg c2] at h
      refine WP.iconst (v := 1) dX10_in_10 (by decide) ?_
      refine WP.goto (tgt := 15) dX10_in_11 (by decide) ?_
      cases h
      exact WP.zret dX10_in_15 (by decide) ⟨rfl, rfl⟩
/-! X10_noField -/
def rX10_noField : Room := { frames := 1, cells := 0, slots := 0, locals := 22 }
def FX10_noField (x1 : Int32) (M : Mm) : Option Int32 :=
  (FX10_in x1 0 ((M.1 69 0) - 1) M).bind fun r2 => (if r2 = 0 then some 1 else some 0)
theorem eFX10_noField (x1 : Int32) (M : Mm) : FX10_noField x1 M = (FX10_in x1 0 ((M.1 69 0) - 1) M).bind fun r2 => (if r2 = 0 then some 1 else some 0) := rfl
set_option maxRecDepth 20000 in
theorem TX10_noField {l : Launch} {G : va_G} {tc : Nat → ClassId} {D : Nat → Nat} {x1 : Int32} {M : Mm} {R : Int32} (h : FX10_noField x1 M = some R) : WP l G tc D lay (fun _ => True) yX10_noField.cls cX10_noField 2 rX10_noField (.code yX10_noField cX10_noField 2 (some .boolean)) 0 (entL 2 [.ref 69, .int x1]) [] M (RetQ cX10_noField (some .boolean) (RQI R M)) := by
  show WP l G tc D lay (fun _ => True) RX10 cX10_noField 2 rX10_noField (.code yX10_noField cX10_noField 2 (some .boolean)) 0 [some (.ref 69), some (.int x1)] [] M (RetQ cX10_noField (some .boolean) (RQI R M))
  unfold FX10_noField at h
  refine WP.iload_n dX10_noField_0 rfl rfl ?_
  refine WP.iconst (v := 0) dX10_noField_1 (by decide) ?_
  refine WP.aload_n dX10_noField_2 rfl rfl ?_
  refine WP.getI (j := 0) dX10_noField_3 rfl rfl in_X10 (by decide) wd_692 rfl ?_
  refine WP.iconst (v := 1) dX10_noField_6 (by decide) ?_
  refine WP.isub dX10_noField_7 ?_
  obtain ⟨r2, h1, h⟩ := Option.bind_eq_some_iff.mp h
  refine WP.callSI [.int x1, .int 0, .int ((M.1 69 0) - 1)] dX10_noField_8 lk_X10_99 rfl (Nat.le_of_ble_eq_true rfl) (by decide) (Nat.le_of_ble_eq_true rfl) rfl (TX10_in h1) ?_
  refine WP.if_ne (tgt := 18) dX10_noField_11 (by decide) (fun c3 => ?_) (fun c3 => ?_)
  · rw [if_neg c3] at h
    refine WP.iconst (v := 0) dX10_noField_18 (by decide) ?_
    cases h
    exact WP.zret dX10_noField_19 (by decide) ⟨rfl, rfl⟩
  · rw [if_pos c3] at h
    refine WP.iconst (v := 1) dX10_noField_14 (by decide) ?_
    refine WP.goto (tgt := 19) dX10_noField_15 (by decide) ?_
    cases h
    exact WP.zret dX10_noField_19 (by decide) ⟨rfl, rfl⟩
/-! X10_noPart -/
def rX10_noPart : Room := { frames := 1, cells := 0, slots := 0, locals := 22 }
def FX10_noPart (x1 : Int32) (M : Mm) : Option Int32 :=
  (FX10_in x1 0 ((M.1 69 5) - 1) M).bind fun r2 => (if r2 = 0 then some 1 else some 0)
theorem eFX10_noPart (x1 : Int32) (M : Mm) : FX10_noPart x1 M = (FX10_in x1 0 ((M.1 69 5) - 1) M).bind fun r2 => (if r2 = 0 then some 1 else some 0) := rfl
set_option maxRecDepth 20000 in
theorem TX10_noPart {l : Launch} {G : va_G} {tc : Nat → ClassId} {D : Nat → Nat} {x1 : Int32} {M : Mm} {R : Int32} (h : FX10_noPart x1 M = some R) : WP l G tc D lay (fun _ => True) yX10_noPart.cls cX10_noPart 2 rX10_noPart (.code yX10_noPart cX10_noPart 2 (some .boolean)) 0 (entL 2 [.ref 69, .int x1]) [] M (RetQ cX10_noPart (some .boolean) (RQI R M)) := by
  show WP l G tc D lay (fun _ => True) RX10 cX10_noPart 2 rX10_noPart (.code yX10_noPart cX10_noPart 2 (some .boolean)) 0 [some (.ref 69), some (.int x1)] [] M (RetQ cX10_noPart (some .boolean) (RQI R M))
  unfold FX10_noPart at h
  refine WP.iload_n dX10_noPart_0 rfl rfl ?_
  refine WP.iconst (v := 0) dX10_noPart_1 (by decide) ?_
  refine WP.aload_n dX10_noPart_2 rfl rfl ?_
  refine WP.getI (j := 5) dX10_noPart_3 rfl rfl in_X10 (by decide) wd_697 rfl ?_
  refine WP.iconst (v := 1) dX10_noPart_6 (by decide) ?_
  refine WP.isub dX10_noPart_7 ?_
  obtain ⟨r2, h1, h⟩ := Option.bind_eq_some_iff.mp h
  refine WP.callSI [.int x1, .int 0, .int ((M.1 69 5) - 1)] dX10_noPart_8 lk_X10_99 rfl (Nat.le_of_ble_eq_true rfl) (by decide) (Nat.le_of_ble_eq_true rfl) rfl (TX10_in h1) ?_
  refine WP.if_ne (tgt := 18) dX10_noPart_11 (by decide) (fun c3 => ?_) (fun c3 => ?_)
  · rw [if_neg c3] at h
    refine WP.iconst (v := 0) dX10_noPart_18 (by decide) ?_
    cases h
    exact WP.zret dX10_noPart_19 (by decide) ⟨rfl, rfl⟩
  · rw [if_pos c3] at h
    refine WP.iconst (v := 1) dX10_noPart_14 (by decide) ?_
    refine WP.goto (tgt := 19) dX10_noPart_15 (by decide) ?_
    cases h
    exact WP.zret dX10_noPart_19 (by decide) ⟨rfl, rfl⟩
/-! X10_field -/
def rX10_field : Room := { frames := 1, cells := 0, slots := 0, locals := 22 }
def BX10_field_81 (N : Nat) (K81 : Int32 × Mm → Option (Int32 × Mm)) (q : Int32 × Mm) : Option (Int32 × Mm) :=
  (if 4 ≤ q.1 then (wrF q.2 69 0 ((q.2.1 69 0) + 1)).bind fun M2 => (wrF M2 69 10 0).bind fun M4 => some (((M4.1 69 0) - 1), M4) else (wrI q.2 73 48 (((4 : Int32) * (q.2.1 69 0)) + q.1) (-9)).bind fun M6 => K81 ((q.1 + 1), M6))
def FX10_field (N : Nat) (x1 : Int32) (x2 : Int32) (x3 : Int32) (M : Mm) : Option (Int32 × Mm) :=
  (FX10_in x1 (-1000) 1000 M).bind fun r2 => (if r2 = 0 then some ((-2), M) else (FX10_in x2 x1 1000 M).bind fun r5 => (if r5 = 0 then some ((-2), M) else (FX10_in x3 0 1 M).bind fun r8 => (if r8 = 0 then some ((-2), M) else (if (M.1 69 0) = 12 then some ((-4), M) else (wrI M 70 12 (M.1 69 0) x1).bind fun M11 => (wrI M11 71 12 (M11.1 69 0) x2).bind fun M13 => (wrI M13 72 12 (M13.1 69 0) x3).bind fun M15 => lp (BX10_field_81 N) N (0, M15)))))
theorem eBX10_field_81 (N : Nat) (K81 : Int32 × Mm → Option (Int32 × Mm)) (q : Int32 × Mm) : BX10_field_81 N K81 q = (if 4 ≤ q.1 then (wrF q.2 69 0 ((q.2.1 69 0) + 1)).bind fun M2 => (wrF M2 69 10 0).bind fun M4 => some (((M4.1 69 0) - 1), M4) else (wrI q.2 73 48 (((4 : Int32) * (q.2.1 69 0)) + q.1) (-9)).bind fun M6 => K81 ((q.1 + 1), M6)) := rfl
theorem eFX10_field (N : Nat) (x1 : Int32) (x2 : Int32) (x3 : Int32) (M : Mm) : FX10_field N x1 x2 x3 M = (FX10_in x1 (-1000) 1000 M).bind fun r2 => (if r2 = 0 then some ((-2), M) else (FX10_in x2 x1 1000 M).bind fun r5 => (if r5 = 0 then some ((-2), M) else (FX10_in x3 0 1 M).bind fun r8 => (if r8 = 0 then some ((-2), M) else (if (M.1 69 0) = 12 then some ((-4), M) else (wrI M 70 12 (M.1 69 0) x1).bind fun M11 => (wrI M11 71 12 (M11.1 69 0) x2).bind fun M13 => (wrI M13 72 12 (M13.1 69 0) x3).bind fun M15 => lp (BX10_field_81 N) N (0, M15))))) := rfl
set_option maxRecDepth 20000 in
theorem tX10_field_81 {l : Launch} {G : va_G} {tc : Nat → ClassId} {D : Nat → Nat} {N : Nat} : ∀ (nn : Nat) (q : Int32 × Mm) (R : (Int32 × Mm)), lp (BX10_field_81 N) nn q = some R → WP l G tc D lay (fun _ => True) RX10 cX10_field 5 rX10_field (.code yX10_field cX10_field 5 (some .int)) 81 [some (.ref 69), none, none, none, some (.int q.1)] [] q.2 (RetQ cX10_field (some .int) (RQI R.1 R.2)) := by
  refine lp_ind (fun K81 hK81q q R h => ?_)
  have hK81 : ∀ (z0 : Int32) (z1 : Mm) (R : (Int32 × Mm)), K81 (z0, z1) = some R → WP l G tc D lay (fun _ => True) RX10 cX10_field 5 rX10_field (.code yX10_field cX10_field 5 (some .int)) 81 [some (.ref 69), none, none, none, some (.int z0)] [] z1 (RetQ cX10_field (some .int) (RQI R.1 R.2)) := fun z0 z1 R hh => hK81q (z0, z1) R hh
  unfold BX10_field_81 at h
  refine WP.iload dX10_field_81 rfl ?_
  refine WP.iconst (v := 4) dX10_field_83 (by decide) ?_
  refine WP.icmp_ge (tgt := 109) dX10_field_84 (by decide) (fun c1 => ?_) (fun c1 => ?_)
  · rw [if_pos c1] at h
    refine WP.aload_n dX10_field_109 rfl rfl ?_
    refine WP.dup dX10_field_110 rfl ?_
    refine WP.getI (j := 0) dX10_field_111 rfl rfl in_X10 (by decide) wd_692 rfl ?_
    refine WP.iconst (v := 1) dX10_field_114 (by decide) ?_
    refine WP.iadd dX10_field_115 ?_
    obtain ⟨M2, h3, h⟩ := Option.bind_eq_some_iff.mp h
    refine WP.putF (j := 0) (ty := .int) dX10_field_116 rfl rfl in_X10 tyX10_ok nmX10 (by decide) wd_692 rfl (by decide +kernel) rfl rfl rfl h3 ?_
    refine WP.aload_n dX10_field_119 rfl rfl ?_
    refine WP.iconst (v := 0) dX10_field_120 (by decide) ?_
    obtain ⟨M4, h5, h⟩ := Option.bind_eq_some_iff.mp h
    refine WP.putF (j := 10) (ty := .boolean) dX10_field_121 rfl rfl in_X10 tyX10_ok nmX10 (by decide) wd_702 rfl (by decide +kernel) (by decide) (by decide) rfl h5 ?_
    refine WP.aload_n dX10_field_124 rfl rfl ?_
    refine WP.getI (j := 0) dX10_field_125 rfl rfl in_X10 (by decide) wd_692 rfl ?_
    refine WP.iconst (v := 1) dX10_field_128 (by decide) ?_
    refine WP.isub dX10_field_129 ?_
    cases h
    exact WP.iret dX10_field_130 ⟨rfl, rfl⟩
  · rw [if_neg c1] at h
    refine WP.aload_n dX10_field_87 rfl rfl ?_
    refine WP.getR (j := 4) dX10_field_88 rfl rfl in_X10 (by decide) wd_696 rfl ?_
    refine WP.iconst (v := 4) dX10_field_91 (by decide) ?_
    refine WP.aload_n dX10_field_92 rfl rfl ?_
    refine WP.getI (j := 0) dX10_field_93 rfl rfl in_X10 (by decide) wd_692 rfl ?_
    refine WP.imul dX10_field_96 ?_
    refine WP.iload dX10_field_97 rfl ?_
    refine WP.iadd dX10_field_99 ?_
    refine WP.bipush (v := (-9)) dX10_field_100 (by decide) ?_
    obtain ⟨M6, h7, h⟩ := Option.bind_eq_some_iff.mp h
    refine WP.iastQ dX10_field_102 rfl h7 ?_
    refine WP.iinc (v := (q.1 + 1)) dX10_field_103 rfl rfl (by decide) rfl rfl ?_
    refine WP.goto (tgt := 81) dX10_field_106 (by decide) ?_
    refine WP.fgt [true, false, false, false, true] rfl ?_
    exact hK81 (q.1 + 1) M6 _ h
theorem uX10_field_81 {l : Launch} {G : va_G} {tc : Nat → ClassId} {D : Nat → Nat} {N : Nat} (nn : Nat) : ∀ (z0 : Int32) (z1 : Mm) (R : (Int32 × Mm)), lp (BX10_field_81 N) nn (z0, z1) = some R → WP l G tc D lay (fun _ => True) RX10 cX10_field 5 rX10_field (.code yX10_field cX10_field 5 (some .int)) 81 [some (.ref 69), none, none, none, some (.int z0)] [] z1 (RetQ cX10_field (some .int) (RQI R.1 R.2)) := fun z0 z1 R hh => tX10_field_81  nn (z0, z1) R hh
set_option maxRecDepth 20000 in
theorem TX10_field {l : Launch} {G : va_G} {tc : Nat → ClassId} {D : Nat → Nat} {N : Nat} {x1 : Int32} {x2 : Int32} {x3 : Int32} {M : Mm} {R : (Int32 × Mm)} (h : FX10_field N x1 x2 x3 M = some R) : WP l G tc D lay (fun _ => True) yX10_field.cls cX10_field 5 rX10_field (.code yX10_field cX10_field 5 (some .int)) 0 (entL 5 [.ref 69, .int x1, .int x2, .int x3]) [] M (RetQ cX10_field (some .int) (RQI R.1 R.2)) := by
  show WP l G tc D lay (fun _ => True) RX10 cX10_field 5 rX10_field (.code yX10_field cX10_field 5 (some .int)) 0 [some (.ref 69), some (.int x1), some (.int x2), some (.int x3), none] [] M (RetQ cX10_field (some .int) (RQI R.1 R.2))
  unfold FX10_field at h
  refine WP.iload_n dX10_field_0 rfl rfl ?_
  refine WP.sipush (v := (-1000)) dX10_field_1 (by decide) ?_
  refine WP.sipush (v := 1000) dX10_field_4 (by decide) ?_
  obtain ⟨r2, h1, h⟩ := Option.bind_eq_some_iff.mp h
  refine WP.callSI [.int x1, .int (-1000), .int 1000] dX10_field_7 lk_X10_99 rfl (Nat.le_of_ble_eq_true rfl) (by decide) (Nat.le_of_ble_eq_true rfl) rfl (TX10_in h1) ?_
  refine WP.if_eq (tgt := 33) dX10_field_10 (by decide) (fun c3 => ?_) (fun c3 => ?_)
  · rw [if_pos c3] at h
    refine WP.bipush (v := (-2)) dX10_field_33 (by decide) ?_
    cases h
    exact WP.iret dX10_field_35 ⟨rfl, rfl⟩
  · rw [if_neg c3] at h
    refine WP.iload_n dX10_field_13 rfl rfl ?_
    refine WP.iload_n dX10_field_14 rfl rfl ?_
    refine WP.sipush (v := 1000) dX10_field_15 (by decide) ?_
    obtain ⟨r5, h4, h⟩ := Option.bind_eq_some_iff.mp h
    refine WP.callSI [.int x2, .int x1, .int 1000] dX10_field_18 lk_X10_99 rfl (Nat.le_of_ble_eq_true rfl) (by decide) (Nat.le_of_ble_eq_true rfl) rfl (TX10_in h4) ?_
    refine WP.if_eq (tgt := 33) dX10_field_21 (by decide) (fun c6 => ?_) (fun c6 => ?_)
    · rw [if_pos c6] at h
      refine WP.bipush (v := (-2)) dX10_field_33 (by decide) ?_
      cases h
      exact WP.iret dX10_field_35 ⟨rfl, rfl⟩
    · rw [if_neg c6] at h
      refine WP.iload_n dX10_field_24 rfl rfl ?_
      refine WP.iconst (v := 0) dX10_field_25 (by decide) ?_
      refine WP.iconst (v := 1) dX10_field_26 (by decide) ?_
      obtain ⟨r8, h7, h⟩ := Option.bind_eq_some_iff.mp h
      refine WP.callSI [.int x3, .int 0, .int 1] dX10_field_27 lk_X10_99 rfl (Nat.le_of_ble_eq_true rfl) (by decide) (Nat.le_of_ble_eq_true rfl) rfl (TX10_in h7) ?_
      refine WP.if_ne (tgt := 36) dX10_field_30 (by decide) (fun c9 => ?_) (fun c9 => ?_)
      · rw [if_neg c9] at h
        refine WP.aload_n dX10_field_36 rfl rfl ?_
        refine WP.getI (j := 0) dX10_field_37 rfl rfl in_X10 (by decide) wd_692 rfl ?_
        refine WP.bipush (v := 12) dX10_field_40 (by decide) ?_
        refine WP.icmp_ne (tgt := 48) dX10_field_42 (by decide) (fun c10 => ?_) (fun c10 => ?_)
        · rw [if_neg c10] at h
          refine WP.aload_n dX10_field_48 rfl rfl ?_
          refine WP.getR (j := 1) dX10_field_49 rfl rfl in_X10 (by decide) wd_693 rfl ?_
          refine WP.aload_n dX10_field_52 rfl rfl ?_
          refine WP.getI (j := 0) dX10_field_53 rfl rfl in_X10 (by decide) wd_692 rfl ?_
          refine WP.iload_n dX10_field_56 rfl rfl ?_
          obtain ⟨M11, h12, h⟩ := Option.bind_eq_some_iff.mp h
          refine WP.iastQ dX10_field_57 rfl h12 ?_
          refine WP.aload_n dX10_field_58 rfl rfl ?_
          refine WP.getR (j := 2) dX10_field_59 rfl rfl in_X10 (by decide) wd_694 rfl ?_
          refine WP.aload_n dX10_field_62 rfl rfl ?_
          refine WP.getI (j := 0) dX10_field_63 rfl rfl in_X10 (by decide) wd_692 rfl ?_
          refine WP.iload_n dX10_field_66 rfl rfl ?_
          obtain ⟨M13, h14, h⟩ := Option.bind_eq_some_iff.mp h
          refine WP.iastQ dX10_field_67 rfl h14 ?_
          refine WP.aload_n dX10_field_68 rfl rfl ?_
          refine WP.getR (j := 3) dX10_field_69 rfl rfl in_X10 (by decide) wd_695 rfl ?_
          refine WP.aload_n dX10_field_72 rfl rfl ?_
          refine WP.getI (j := 0) dX10_field_73 rfl rfl in_X10 (by decide) wd_692 rfl ?_
          refine WP.iload_n dX10_field_76 rfl rfl ?_
          obtain ⟨M15, h16, h⟩ := Option.bind_eq_some_iff.mp h
          refine WP.iastQ dX10_field_77 rfl h16 ?_
          refine WP.iconst (v := 0) dX10_field_78 (by decide) ?_
          refine WP.istore dX10_field_79 (by decide) rfl rfl ?_
          refine WP.fgt [true, false, false, false, true] rfl ?_
          exact uX10_field_81  N 0 M15 _ h
        · rw [if_pos c10] at h
          refine WP.bipush (v := (-4)) dX10_field_45 (by decide) ?_
          cases h
          exact WP.iret dX10_field_47 ⟨rfl, rfl⟩
      · rw [if_pos c9] at h
        refine WP.bipush (v := (-2)) dX10_field_33 (by decide) ?_
        cases h
        exact WP.iret dX10_field_35 ⟨rfl, rfl⟩
/-! X10_partsOf -/
def rX10_partsOf : Room := { frames := 1, cells := 0, slots := 0, locals := 22 }
def FX10_partsOf (x1 : Int32) (M : Mm) : Option Int32 :=
  (if x1 = 11 then some 3 else (FX10_in x1 2 8 M).bind fun r3 => (if r3 = 0 then (if x1 = 9 then some 1 else some 0) else some 2))
theorem eFX10_partsOf (x1 : Int32) (M : Mm) : FX10_partsOf x1 M = (if x1 = 11 then some 3 else (FX10_in x1 2 8 M).bind fun r3 => (if r3 = 0 then (if x1 = 9 then some 1 else some 0) else some 2)) := rfl
set_option maxRecDepth 20000 in
theorem TX10_partsOf {l : Launch} {G : va_G} {tc : Nat → ClassId} {D : Nat → Nat} {x1 : Int32} {M : Mm} {R : Int32} (h : FX10_partsOf x1 M = some R) : WP l G tc D lay (fun _ => True) yX10_partsOf.cls cX10_partsOf 1 rX10_partsOf (.code yX10_partsOf cX10_partsOf 1 (some .int)) 0 (entL 1 [.int x1]) [] M (RetQ cX10_partsOf (some .int) (RQI R M)) := by
  show WP l G tc D lay (fun _ => True) RX10 cX10_partsOf 1 rX10_partsOf (.code yX10_partsOf cX10_partsOf 1 (some .int)) 0 [some (.int x1)] [] M (RetQ cX10_partsOf (some .int) (RQI R M))
  unfold FX10_partsOf at h
  refine WP.iload_n dX10_partsOf_0 rfl rfl ?_
  refine WP.bipush (v := 11) dX10_partsOf_1 (by decide) ?_
  refine WP.icmp_ne (tgt := 10) dX10_partsOf_3 (by decide) (fun c1 => ?_) (fun c1 => ?_)
  · rw [if_neg c1] at h
    refine WP.iload_n dX10_partsOf_10 rfl rfl ?_
    refine WP.iconst (v := 2) dX10_partsOf_11 (by decide) ?_
    refine WP.bipush (v := 8) dX10_partsOf_12 (by decide) ?_
    obtain ⟨r3, h2, h⟩ := Option.bind_eq_some_iff.mp h
    refine WP.callSI [.int x1, .int 2, .int 8] dX10_partsOf_14 lk_X10_99 rfl (Nat.le_of_ble_eq_true rfl) (by decide) (Nat.le_of_ble_eq_true rfl) rfl (TX10_in h2) ?_
    refine WP.if_eq (tgt := 24) dX10_partsOf_17 (by decide) (fun c4 => ?_) (fun c4 => ?_)
    · rw [if_pos c4] at h
      refine WP.iload_n dX10_partsOf_24 rfl rfl ?_
      refine WP.bipush (v := 9) dX10_partsOf_25 (by decide) ?_
      refine WP.icmp_ne (tgt := 34) dX10_partsOf_27 (by decide) (fun c5 => ?_) (fun c5 => ?_)
      · rw [if_neg c5] at h
        refine WP.iconst (v := 0) dX10_partsOf_34 (by decide) ?_
        cases h
        exact WP.iret dX10_partsOf_35 ⟨rfl, rfl⟩
      · rw [if_pos c5] at h
        refine WP.iconst (v := 1) dX10_partsOf_30 (by decide) ?_
        refine WP.goto (tgt := 35) dX10_partsOf_31 (by decide) ?_
        cases h
        exact WP.iret dX10_partsOf_35 ⟨rfl, rfl⟩
    · rw [if_neg c4] at h
      refine WP.iconst (v := 2) dX10_partsOf_20 (by decide) ?_
      refine WP.goto (tgt := 35) dX10_partsOf_21 (by decide) ?_
      cases h
      exact WP.iret dX10_partsOf_35 ⟨rfl, rfl⟩
  · rw [if_pos c1] at h
    refine WP.iconst (v := 3) dX10_partsOf_6 (by decide) ?_
    refine WP.goto (tgt := 35) dX10_partsOf_7 (by decide) ?_
    cases h
    exact WP.iret dX10_partsOf_35 ⟨rfl, rfl⟩
/-! X10_isOfField -/
def rX10_isOfField : Room := { frames := 0, cells := 0, slots := 0, locals := 0 }
def FX10_isOfField (x1 : Int32) (M : Mm) : Option Int32 :=
  (if x1 = 1 then some 1 else (if x1 = 10 then some 1 else some 0))
theorem eFX10_isOfField (x1 : Int32) (M : Mm) : FX10_isOfField x1 M = (if x1 = 1 then some 1 else (if x1 = 10 then some 1 else some 0)) := rfl
set_option maxRecDepth 20000 in
theorem TX10_isOfField {l : Launch} {G : va_G} {tc : Nat → ClassId} {D : Nat → Nat} {x1 : Int32} {M : Mm} {R : Int32} (h : FX10_isOfField x1 M = some R) : WP l G tc D lay (fun _ => True) yX10_isOfField.cls cX10_isOfField 1 rX10_isOfField (.code yX10_isOfField cX10_isOfField 1 (some .boolean)) 0 (entL 1 [.int x1]) [] M (RetQ cX10_isOfField (some .boolean) (RQI R M)) := by
  show WP l G tc D lay (fun _ => True) RX10 cX10_isOfField 1 rX10_isOfField (.code yX10_isOfField cX10_isOfField 1 (some .boolean)) 0 [some (.int x1)] [] M (RetQ cX10_isOfField (some .boolean) (RQI R M))
  unfold FX10_isOfField at h
  refine WP.iload_n dX10_isOfField_0 rfl rfl ?_
  refine WP.iconst (v := 1) dX10_isOfField_1 (by decide) ?_
  refine WP.icmp_eq (tgt := 11) dX10_isOfField_2 (by decide) (fun c1 => ?_) (fun c1 => ?_)
  · rw [if_pos c1] at h
    refine WP.iconst (v := 1) dX10_isOfField_11 (by decide) ?_
    refine WP.goto (tgt := 16) dX10_isOfField_12 (by decide) ?_
    cases h
    exact WP.zret dX10_isOfField_16 (by decide) ⟨rfl, rfl⟩
  · rw [if_neg c1] at h
    refine WP.iload_n dX10_isOfField_5 rfl rfl ?_
    refine WP.bipush (v := 10) dX10_isOfField_6 (by decide) ?_
    refine WP.icmp_ne (tgt := 15) dX10_isOfField_8 (by decide) (fun c2 => ?_) (fun c2 => ?_)
    · rw [if_neg c2] at h
      refine WP.iconst (v := 0) dX10_isOfField_15 (by decide) ?_
      cases h
      exact WP.zret dX10_isOfField_16 (by decide) ⟨rfl, rfl⟩
    · rw [if_pos c2] at h
      refine WP.iconst (v := 1) dX10_isOfField_11 (by decide) ?_
      refine WP.goto (tgt := 16) dX10_isOfField_12 (by decide) ?_
      cases h
      exact WP.zret dX10_isOfField_16 (by decide) ⟨rfl, rfl⟩
/-! X10_part -/
def rX10_part : Room := { frames := 2, cells := 0, slots := 0, locals := 43 }
def BX10_part_93 (a1 : Int32) (a2 : Int32) (a3 : Int32) (a4 : Int32) (M : Mm) : Option (Int32 × Mm) :=
  (if (M.1 69 5) = 50 then some ((-4), M) else (wrI M 74 50 (M.1 69 5) a1).bind fun M2 => (wrI M2 75 50 (M2.1 69 5) a2).bind fun M4 => (wrI M4 76 50 (M4.1 69 5) a3).bind fun M6 => (wrI M6 77 50 (M6.1 69 5) a4).bind fun M8 => (wrF M8 69 5 ((M8.1 69 5) + 1)).bind fun M10 => some (((M10.1 69 5) - 1), M10))
def BX10_part_65 (a1 : Int32) (a2 : Int32) (a3 : Int32) (a4 : Int32) (M : Mm) : Option (Int32 × Mm) :=
  (FX10_in a1 0 11 M).bind fun r2 => (if r2 = 0 then some ((-2), M) else (if a1 = 0 then (FX10_in a2 (-1000000) 1000000 M).bind fun r6 => (if r6 = 0 then some ((-2), M) else BX10_part_93 a1 a2 a3 a4 M) else BX10_part_93 a1 a2 a3 a4 M))
def BX10_part_48 (a1 : Int32) (a2 : Int32) (a3 : Int32) (a4 : Int32) (a5 : Int32) (M : Mm) : Option (Int32 × Mm) :=
  (if a5 ≤ 2 then BX10_part_65 a1 a2 a3 a4 M else (FX10_noPart a4 M).bind fun r3 => (if r3 = 0 then BX10_part_65 a1 a2 a3 a4 M else some ((-1), M)))
def BX10_part_34 (a1 : Int32) (a2 : Int32) (a3 : Int32) (a4 : Int32) (a5 : Int32) (M : Mm) : Option (Int32 × Mm) :=
  (if a5 ≤ 1 then BX10_part_48 a1 a2 a3 a4 a5 M else (FX10_noPart a3 M).bind fun r3 => (if r3 = 0 then BX10_part_48 a1 a2 a3 a4 a5 M else some ((-1), M)))
def BX10_part_21 (a1 : Int32) (a2 : Int32) (a3 : Int32) (a4 : Int32) (a5 : Int32) (M : Mm) : Option (Int32 × Mm) :=
  (if a5 ≤ 0 then BX10_part_34 a1 a2 a3 a4 a5 M else (FX10_noPart a2 M).bind fun r3 => (if r3 = 0 then BX10_part_34 a1 a2 a3 a4 a5 M else some ((-1), M)))
def FX10_part (x1 : Int32) (x2 : Int32) (x3 : Int32) (x4 : Int32) (M : Mm) : Option (Int32 × Mm) :=
  (FX10_partsOf x1 M).bind fun r2 => (FX10_isOfField x1 M).bind fun r4 => (if r4 = 0 then BX10_part_21 x1 x2 x3 x4 r2 M else (FX10_noField x2 M).bind fun r7 => (if r7 = 0 then BX10_part_21 x1 x2 x3 x4 r2 M else some ((-1), M)))
theorem eBX10_part_93 (a1 : Int32) (a2 : Int32) (a3 : Int32) (a4 : Int32) (M : Mm) : BX10_part_93 a1 a2 a3 a4 M = (if (M.1 69 5) = 50 then some ((-4), M) else (wrI M 74 50 (M.1 69 5) a1).bind fun M2 => (wrI M2 75 50 (M2.1 69 5) a2).bind fun M4 => (wrI M4 76 50 (M4.1 69 5) a3).bind fun M6 => (wrI M6 77 50 (M6.1 69 5) a4).bind fun M8 => (wrF M8 69 5 ((M8.1 69 5) + 1)).bind fun M10 => some (((M10.1 69 5) - 1), M10)) := rfl
theorem eBX10_part_65 (a1 : Int32) (a2 : Int32) (a3 : Int32) (a4 : Int32) (M : Mm) : BX10_part_65 a1 a2 a3 a4 M = (FX10_in a1 0 11 M).bind fun r2 => (if r2 = 0 then some ((-2), M) else (if a1 = 0 then (FX10_in a2 (-1000000) 1000000 M).bind fun r6 => (if r6 = 0 then some ((-2), M) else BX10_part_93 a1 a2 a3 a4 M) else BX10_part_93 a1 a2 a3 a4 M)) := rfl
theorem eBX10_part_48 (a1 : Int32) (a2 : Int32) (a3 : Int32) (a4 : Int32) (a5 : Int32) (M : Mm) : BX10_part_48 a1 a2 a3 a4 a5 M = (if a5 ≤ 2 then BX10_part_65 a1 a2 a3 a4 M else (FX10_noPart a4 M).bind fun r3 => (if r3 = 0 then BX10_part_65 a1 a2 a3 a4 M else some ((-1), M))) := rfl
theorem eBX10_part_34 (a1 : Int32) (a2 : Int32) (a3 : Int32) (a4 : Int32) (a5 : Int32) (M : Mm) : BX10_part_34 a1 a2 a3 a4 a5 M = (if a5 ≤ 1 then BX10_part_48 a1 a2 a3 a4 a5 M else (FX10_noPart a3 M).bind fun r3 => (if r3 = 0 then BX10_part_48 a1 a2 a3 a4 a5 M else some ((-1), M))) := rfl
theorem eBX10_part_21 (a1 : Int32) (a2 : Int32) (a3 : Int32) (a4 : Int32) (a5 : Int32) (M : Mm) : BX10_part_21 a1 a2 a3 a4 a5 M = (if a5 ≤ 0 then BX10_part_34 a1 a2 a3 a4 a5 M else (FX10_noPart a2 M).bind fun r3 => (if r3 = 0 then BX10_part_34 a1 a2 a3 a4 a5 M else some ((-1), M))) := rfl
theorem eFX10_part (x1 : Int32) (x2 : Int32) (x3 : Int32) (x4 : Int32) (M : Mm) : FX10_part x1 x2 x3 x4 M = (FX10_partsOf x1 M).bind fun r2 => (FX10_isOfField x1 M).bind fun r4 => (if r4 = 0 then BX10_part_21 x1 x2 x3 x4 r2 M else (FX10_noField x2 M).bind fun r7 => (if r7 = 0 then BX10_part_21 x1 x2 x3 x4 r2 M else some ((-1), M))) := rfl
set_option maxRecDepth 20000 in
theorem tX10_part_93 {l : Launch} {G : va_G} {tc : Nat → ClassId} {D : Nat → Nat} {a1 : Int32} {a2 : Int32} {a3 : Int32} {a4 : Int32} {M : Mm} {R : (Int32 × Mm)} (h : BX10_part_93 a1 a2 a3 a4 M = some R) : WP l G tc D lay (fun _ => True) RX10 cX10_part 6 rX10_part (.code yX10_part cX10_part 6 (some .int)) 93 [some (.ref 69), some (.int a1), some (.int a2), some (.int a3), some (.int a4), none] [] M (RetQ cX10_part (some .int) (RQI R.1 R.2)) := by
  unfold BX10_part_93 at h
  refine WP.aload_n dX10_part_93 rfl rfl ?_
  refine WP.getI (j := 5) dX10_part_94 rfl rfl in_X10 (by decide) wd_697 rfl ?_
  refine WP.bipush (v := 50) dX10_part_97 (by decide) ?_
  refine WP.icmp_ne (tgt := 105) dX10_part_99 (by decide) (fun c1 => ?_) (fun c1 => ?_)
  · rw [if_neg c1] at h
    refine WP.aload_n dX10_part_105 rfl rfl ?_
    refine WP.getR (j := 6) dX10_part_106 rfl rfl in_X10 (by decide) wd_698 rfl ?_
    refine WP.aload_n dX10_part_109 rfl rfl ?_
    refine WP.getI (j := 5) dX10_part_110 rfl rfl in_X10 (by decide) wd_697 rfl ?_
    refine WP.iload_n dX10_part_113 rfl rfl ?_
    obtain ⟨M2, h3, h⟩ := Option.bind_eq_some_iff.mp h
    refine WP.iastQ dX10_part_114 rfl h3 ?_
    refine WP.aload_n dX10_part_115 rfl rfl ?_
    refine WP.getR (j := 7) dX10_part_116 rfl rfl in_X10 (by decide) wd_699 rfl ?_
    refine WP.aload_n dX10_part_119 rfl rfl ?_
    refine WP.getI (j := 5) dX10_part_120 rfl rfl in_X10 (by decide) wd_697 rfl ?_
    refine WP.iload_n dX10_part_123 rfl rfl ?_
    obtain ⟨M4, h5, h⟩ := Option.bind_eq_some_iff.mp h
    refine WP.iastQ dX10_part_124 rfl h5 ?_
    refine WP.aload_n dX10_part_125 rfl rfl ?_
    refine WP.getR (j := 8) dX10_part_126 rfl rfl in_X10 (by decide) wd_700 rfl ?_
    refine WP.aload_n dX10_part_129 rfl rfl ?_
    refine WP.getI (j := 5) dX10_part_130 rfl rfl in_X10 (by decide) wd_697 rfl ?_
    refine WP.iload_n dX10_part_133 rfl rfl ?_
    obtain ⟨M6, h7, h⟩ := Option.bind_eq_some_iff.mp h
    refine WP.iastQ dX10_part_134 rfl h7 ?_
    refine WP.aload_n dX10_part_135 rfl rfl ?_
    refine WP.getR (j := 9) dX10_part_136 rfl rfl in_X10 (by decide) wd_701 rfl ?_
    refine WP.aload_n dX10_part_139 rfl rfl ?_
    refine WP.getI (j := 5) dX10_part_140 rfl rfl in_X10 (by decide) wd_697 rfl ?_
    refine WP.iload dX10_part_143 rfl ?_
    obtain ⟨M8, h9, h⟩ := Option.bind_eq_some_iff.mp h
    refine WP.iastQ dX10_part_145 rfl h9 ?_
    refine WP.aload_n dX10_part_146 rfl rfl ?_
    refine WP.dup dX10_part_147 rfl ?_
    refine WP.getI (j := 5) dX10_part_148 rfl rfl in_X10 (by decide) wd_697 rfl ?_
    refine WP.iconst (v := 1) dX10_part_151 (by decide) ?_
    refine WP.iadd dX10_part_152 ?_
    obtain ⟨M10, h11, h⟩ := Option.bind_eq_some_iff.mp h
    refine WP.putF (j := 5) (ty := .int) dX10_part_153 rfl rfl in_X10 tyX10_ok nmX10 (by decide) wd_697 rfl (by decide +kernel) rfl rfl rfl h11 ?_
    refine WP.aload_n dX10_part_156 rfl rfl ?_
    refine WP.getI (j := 5) dX10_part_157 rfl rfl in_X10 (by decide) wd_697 rfl ?_
    refine WP.iconst (v := 1) dX10_part_160 (by decide) ?_
    refine WP.isub dX10_part_161 ?_
    cases h
    exact WP.iret dX10_part_162 ⟨rfl, rfl⟩
  · rw [if_pos c1] at h
    refine WP.bipush (v := (-4)) dX10_part_102 (by decide) ?_
    cases h
    exact WP.iret dX10_part_104 ⟨rfl, rfl⟩
set_option maxRecDepth 20000 in
theorem tX10_part_65 {l : Launch} {G : va_G} {tc : Nat → ClassId} {D : Nat → Nat} {a1 : Int32} {a2 : Int32} {a3 : Int32} {a4 : Int32} {M : Mm} {R : (Int32 × Mm)} (h : BX10_part_65 a1 a2 a3 a4 M = some R) : WP l G tc D lay (fun _ => True) RX10 cX10_part 6 rX10_part (.code yX10_part cX10_part 6 (some .int)) 65 [some (.ref 69), some (.int a1), some (.int a2), some (.int a3), some (.int a4), none] [] M (RetQ cX10_part (some .int) (RQI R.1 R.2)) := by
  unfold BX10_part_65 at h
  refine WP.iload_n dX10_part_65 rfl rfl ?_
  refine WP.iconst (v := 0) dX10_part_66 (by decide) ?_
  refine WP.bipush (v := 11) dX10_part_67 (by decide) ?_
  obtain ⟨r2, h1, h⟩ := Option.bind_eq_some_iff.mp h
  refine WP.callSI [.int a1, .int 0, .int 11] dX10_part_69 lk_X10_99 rfl (Nat.le_of_ble_eq_true rfl) (by decide) (Nat.le_of_ble_eq_true rfl) rfl (TX10_in h1) ?_
  refine WP.if_eq (tgt := 90) dX10_part_72 (by decide) (fun c3 => ?_) (fun c3 => ?_)
  · rw [if_pos c3] at h
    refine WP.bipush (v := (-2)) dX10_part_90 (by decide) ?_
    cases h
    exact WP.iret dX10_part_92 ⟨rfl, rfl⟩
  · rw [if_neg c3] at h
    refine WP.iload_n dX10_part_75 rfl rfl ?_
    refine WP.if_ne (tgt := 93) dX10_part_76 (by decide) (fun c4 => ?_) (fun c4 => ?_)
    · rw [if_neg c4] at h
      refine WP.fgt [true, true, true, true, true, false] rfl ?_
      exact tX10_part_93  h
    · rw [if_pos c4] at h
      refine WP.iload_n dX10_part_79 rfl rfl ?_
      refine WP.ldc (v := (-1000000)) dX10_part_80 wd_821 ?_
      refine WP.ldc (v := 1000000) dX10_part_82 wd_822 ?_
      obtain ⟨r6, h5, h⟩ := Option.bind_eq_some_iff.mp h
      refine WP.callSI [.int a2, .int (-1000000), .int 1000000] dX10_part_84 lk_X10_99 rfl (Nat.le_of_ble_eq_true rfl) (by decide) (Nat.le_of_ble_eq_true rfl) rfl (TX10_in h5) ?_
      refine WP.if_ne (tgt := 93) dX10_part_87 (by decide) (fun c7 => ?_) (fun c7 => ?_)
      · rw [if_neg c7] at h
        refine WP.fgt [true, true, true, true, true, false] rfl ?_
        exact tX10_part_93  h
      · rw [if_pos c7] at h
        refine WP.bipush (v := (-2)) dX10_part_90 (by decide) ?_
        cases h
        exact WP.iret dX10_part_92 ⟨rfl, rfl⟩
set_option maxRecDepth 20000 in
theorem tX10_part_48 {l : Launch} {G : va_G} {tc : Nat → ClassId} {D : Nat → Nat} {a1 : Int32} {a2 : Int32} {a3 : Int32} {a4 : Int32} {a5 : Int32} {M : Mm} {R : (Int32 × Mm)} (h : BX10_part_48 a1 a2 a3 a4 a5 M = some R) : WP l G tc D lay (fun _ => True) RX10 cX10_part 6 rX10_part (.code yX10_part cX10_part 6 (some .int)) 48 [some (.ref 69), some (.int a1), some (.int a2), some (.int a3), some (.int a4), some (.int a5)] [] M (RetQ cX10_part (some .int) (RQI R.1 R.2)) := by
  unfold BX10_part_48 at h
  refine WP.iload dX10_part_48 rfl ?_
  refine WP.iconst (v := 2) dX10_part_50 (by decide) ?_
  refine WP.icmp_le (tgt := 65) dX10_part_51 (by decide) (fun c1 => ?_) (fun c1 => ?_)
  · rw [if_pos c1] at h
    refine WP.fgt [true, true, true, true, true, false] rfl ?_
    exact tX10_part_65  h
  · rw [if_neg c1] at h
    refine WP.aload_n dX10_part_54 rfl rfl ?_
    refine WP.iload dX10_part_55 rfl ?_
    obtain ⟨r3, h2, h⟩ := Option.bind_eq_some_iff.mp h
    refine WP.callVI [.int a4] dX10_part_57 lk_X10_117 rfl rfl rfl (Nat.le_of_ble_eq_true rfl) (by decide) (Nat.le_of_ble_eq_true rfl) rfl (TX10_noPart h2) ?_
    refine WP.if_eq (tgt := 65) dX10_part_60 (by decide) (fun c4 => ?_) (fun c4 => ?_)
    · rw [if_pos c4] at h
      refine WP.fgt [true, true, true, true, true, false] rfl ?_
      exact tX10_part_65  h
    · rw [if_neg c4] at h
      refine WP.iconst (v := (-1)) dX10_part_63 (by decide) ?_
      cases h
      exact WP.iret dX10_part_64 ⟨rfl, rfl⟩
set_option maxRecDepth 20000 in
theorem tX10_part_34 {l : Launch} {G : va_G} {tc : Nat → ClassId} {D : Nat → Nat} {a1 : Int32} {a2 : Int32} {a3 : Int32} {a4 : Int32} {a5 : Int32} {M : Mm} {R : (Int32 × Mm)} (h : BX10_part_34 a1 a2 a3 a4 a5 M = some R) : WP l G tc D lay (fun _ => True) RX10 cX10_part 6 rX10_part (.code yX10_part cX10_part 6 (some .int)) 34 [some (.ref 69), some (.int a1), some (.int a2), some (.int a3), some (.int a4), some (.int a5)] [] M (RetQ cX10_part (some .int) (RQI R.1 R.2)) := by
  unfold BX10_part_34 at h
  refine WP.iload dX10_part_34 rfl ?_
  refine WP.iconst (v := 1) dX10_part_36 (by decide) ?_
  refine WP.icmp_le (tgt := 48) dX10_part_37 (by decide) (fun c1 => ?_) (fun c1 => ?_)
  · rw [if_pos c1] at h
    refine WP.fgt [true, true, true, true, true, true] rfl ?_
    exact tX10_part_48  h
  · rw [if_neg c1] at h
    refine WP.aload_n dX10_part_40 rfl rfl ?_
    refine WP.iload_n dX10_part_41 rfl rfl ?_
    obtain ⟨r3, h2, h⟩ := Option.bind_eq_some_iff.mp h
    refine WP.callVI [.int a3] dX10_part_42 lk_X10_117 rfl rfl rfl (Nat.le_of_ble_eq_true rfl) (by decide) (Nat.le_of_ble_eq_true rfl) rfl (TX10_noPart h2) ?_
    refine WP.if_ne (tgt := 63) dX10_part_45 (by decide) (fun c4 => ?_) (fun c4 => ?_)
    · rw [if_neg c4] at h
      refine WP.iconst (v := (-1)) dX10_part_63 (by decide) ?_
      cases h
      exact WP.iret dX10_part_64 ⟨rfl, rfl⟩
    · rw [if_pos c4] at h
      refine WP.fgt [true, true, true, true, true, true] rfl ?_
      exact tX10_part_48  h
set_option maxRecDepth 20000 in
theorem tX10_part_21 {l : Launch} {G : va_G} {tc : Nat → ClassId} {D : Nat → Nat} {a1 : Int32} {a2 : Int32} {a3 : Int32} {a4 : Int32} {a5 : Int32} {M : Mm} {R : (Int32 × Mm)} (h : BX10_part_21 a1 a2 a3 a4 a5 M = some R) : WP l G tc D lay (fun _ => True) RX10 cX10_part 6 rX10_part (.code yX10_part cX10_part 6 (some .int)) 21 [some (.ref 69), some (.int a1), some (.int a2), some (.int a3), some (.int a4), some (.int a5)] [] M (RetQ cX10_part (some .int) (RQI R.1 R.2)) := by
  unfold BX10_part_21 at h
  refine WP.iload dX10_part_21 rfl ?_
  refine WP.if_le (tgt := 34) dX10_part_23 (by decide) (fun c1 => ?_) (fun c1 => ?_)
  · rw [if_pos c1] at h
    refine WP.fgt [true, true, true, true, true, true] rfl ?_
    exact tX10_part_34  h
  · rw [if_neg c1] at h
    refine WP.aload_n dX10_part_26 rfl rfl ?_
    refine WP.iload_n dX10_part_27 rfl rfl ?_
    obtain ⟨r3, h2, h⟩ := Option.bind_eq_some_iff.mp h
    refine WP.callVI [.int a2] dX10_part_28 lk_X10_117 rfl rfl rfl (Nat.le_of_ble_eq_true rfl) (by decide) (Nat.le_of_ble_eq_true rfl) rfl (TX10_noPart h2) ?_
    refine WP.if_ne (tgt := 63) dX10_part_31 (by decide) (fun c4 => ?_) (fun c4 => ?_)
    · rw [if_neg c4] at h
      refine WP.iconst (v := (-1)) dX10_part_63 (by decide) ?_
      cases h
      exact WP.iret dX10_part_64 ⟨rfl, rfl⟩
    · rw [if_pos c4] at h
      refine WP.fgt [true, true, true, true, true, true] rfl ?_
      exact tX10_part_34  h
set_option maxRecDepth 20000 in
theorem TX10_part {l : Launch} {G : va_G} {tc : Nat → ClassId} {D : Nat → Nat} {x1 : Int32} {x2 : Int32} {x3 : Int32} {x4 : Int32} {M : Mm} {R : (Int32 × Mm)} (h : FX10_part x1 x2 x3 x4 M = some R) : WP l G tc D lay (fun _ => True) yX10_part.cls cX10_part 6 rX10_part (.code yX10_part cX10_part 6 (some .int)) 0 (entL 6 [.ref 69, .int x1, .int x2, .int x3, .int x4]) [] M (RetQ cX10_part (some .int) (RQI R.1 R.2)) := by
  show WP l G tc D lay (fun _ => True) RX10 cX10_part 6 rX10_part (.code yX10_part cX10_part 6 (some .int)) 0 [some (.ref 69), some (.int x1), some (.int x2), some (.int x3), some (.int x4), none] [] M (RetQ cX10_part (some .int) (RQI R.1 R.2))
  unfold FX10_part at h
  refine WP.iload_n dX10_part_0 rfl rfl ?_
  obtain ⟨r2, h1, h⟩ := Option.bind_eq_some_iff.mp h
  refine WP.callSI [.int x1] dX10_part_1 lk_X10_106 rfl (Nat.le_of_ble_eq_true rfl) (by decide) (Nat.le_of_ble_eq_true rfl) rfl (TX10_partsOf h1) ?_
  refine WP.istore dX10_part_4 (by decide) rfl rfl ?_
  refine WP.iload_n dX10_part_6 rfl rfl ?_
  obtain ⟨r4, h3, h⟩ := Option.bind_eq_some_iff.mp h
  refine WP.callSI [.int x1] dX10_part_7 lk_X10_110 rfl (Nat.le_of_ble_eq_true rfl) (by decide) (Nat.le_of_ble_eq_true rfl) rfl (TX10_isOfField h3) ?_
  refine WP.if_eq (tgt := 21) dX10_part_10 (by decide) (fun c5 => ?_) (fun c5 => ?_)
  · rw [if_pos c5] at h
    refine WP.fgt [true, true, true, true, true, true] rfl ?_
    exact tX10_part_21  h
  · rw [if_neg c5] at h
    refine WP.aload_n dX10_part_13 rfl rfl ?_
    refine WP.iload_n dX10_part_14 rfl rfl ?_
    obtain ⟨r7, h6, h⟩ := Option.bind_eq_some_iff.mp h
    refine WP.callVI [.int x2] dX10_part_15 lk_X10_114 rfl rfl rfl (Nat.le_of_ble_eq_true rfl) (by decide) (Nat.le_of_ble_eq_true rfl) rfl (TX10_noField h6) ?_
    refine WP.if_ne (tgt := 63) dX10_part_18 (by decide) (fun c8 => ?_) (fun c8 => ?_)
    · rw [if_neg c8] at h
      refine WP.iconst (v := (-1)) dX10_part_63 (by decide) ?_
      cases h
      exact WP.iret dX10_part_64 ⟨rfl, rfl⟩
    · rw [if_pos c8] at h
      refine WP.fgt [true, true, true, true, true, true] rfl ?_
      exact tX10_part_21  h
/-! X10_reached -/
def rX10_reached : Room := { frames := 2, cells := 0, slots := 0, locals := 42 }
def BX10_reached_76 (N : Nat) (K7 : Int64 × Int32 → Option Int64) (a4 : Int32) (a5 : Int32) (t0 : Int64) (t1 : Int64) (M : Mm) : Option Int64 :=
  (if a5 ≤ 2 then K7 (((t0 ||| t1) ||| 0), (a4 + (-1))) else (rdI M 77 50 a4).bind fun v2 => K7 (((t0 ||| t1) ||| ((1 : Int64) <<< (v2.toInt64 &&& 63))), (a4 + (-1))))
def BX10_reached_54 (N : Nat) (K7 : Int64 × Int32 → Option Int64) (a4 : Int32) (a5 : Int32) (t0 : Int64) (t1 : Int64) (M : Mm) : Option Int64 :=
  (if a5 ≤ 1 then BX10_reached_76 N K7 a4 a5 (t0 ||| t1) 0 M else (rdI M 76 50 a4).bind fun v2 => BX10_reached_76 N K7 a4 a5 (t0 ||| t1) ((1 : Int64) <<< (v2.toInt64 &&& 63)) M)
def BX10_reached_7 (N : Nat) (M : Mm) (K7 : Int64 × Int32 → Option Int64) (q : Int64 × Int32) : Option Int64 :=
  (if q.2 < 0 then some q.1 else (if (lg_cmp ((q.1 >>> (q.2.toInt64 &&& 63)) &&& 1) 1) = 0 then (rdI M 74 50 q.2).bind fun v3 => (FX10_partsOf v3 M).bind fun r6 => (if r6 ≤ 0 then BX10_reached_54 N K7 q.2 r6 q.1 0 M else (rdI M 75 50 q.2).bind fun v8 => BX10_reached_54 N K7 q.2 r6 q.1 ((1 : Int64) <<< (v8.toInt64 &&& 63)) M) else K7 (q.1, (q.2 + (-1)))))
def FX10_reached (N : Nat) (x1 : Int32) (M : Mm) : Option Int64 :=
  lp (BX10_reached_7 N M) N (((1 : Int64) <<< (x1.toInt64 &&& 63)), x1)
theorem eBX10_reached_76 (N : Nat) (K7 : Int64 × Int32 → Option Int64) (a4 : Int32) (a5 : Int32) (t0 : Int64) (t1 : Int64) (M : Mm) : BX10_reached_76 N K7 a4 a5 t0 t1 M = (if a5 ≤ 2 then K7 (((t0 ||| t1) ||| 0), (a4 + (-1))) else (rdI M 77 50 a4).bind fun v2 => K7 (((t0 ||| t1) ||| ((1 : Int64) <<< (v2.toInt64 &&& 63))), (a4 + (-1)))) := rfl
theorem eBX10_reached_54 (N : Nat) (K7 : Int64 × Int32 → Option Int64) (a4 : Int32) (a5 : Int32) (t0 : Int64) (t1 : Int64) (M : Mm) : BX10_reached_54 N K7 a4 a5 t0 t1 M = (if a5 ≤ 1 then BX10_reached_76 N K7 a4 a5 (t0 ||| t1) 0 M else (rdI M 76 50 a4).bind fun v2 => BX10_reached_76 N K7 a4 a5 (t0 ||| t1) ((1 : Int64) <<< (v2.toInt64 &&& 63)) M) := rfl
theorem eBX10_reached_7 (N : Nat) (M : Mm) (K7 : Int64 × Int32 → Option Int64) (q : Int64 × Int32) : BX10_reached_7 N M K7 q = (if q.2 < 0 then some q.1 else (if (lg_cmp ((q.1 >>> (q.2.toInt64 &&& 63)) &&& 1) 1) = 0 then (rdI M 74 50 q.2).bind fun v3 => (FX10_partsOf v3 M).bind fun r6 => (if r6 ≤ 0 then BX10_reached_54 N K7 q.2 r6 q.1 0 M else (rdI M 75 50 q.2).bind fun v8 => BX10_reached_54 N K7 q.2 r6 q.1 ((1 : Int64) <<< (v8.toInt64 &&& 63)) M) else K7 (q.1, (q.2 + (-1))))) := rfl
theorem eFX10_reached (N : Nat) (x1 : Int32) (M : Mm) : FX10_reached N x1 M = lp (BX10_reached_7 N M) N (((1 : Int64) <<< (x1.toInt64 &&& 63)), x1) := rfl
set_option maxRecDepth 20000 in
theorem tX10_reached_76 {l : Launch} {G : va_G} {tc : Nat → ClassId} {D : Nat → Nat} {N : Nat} {K7 : Int64 × Int32 → Option Int64} {a4 : Int32} {a5 : Int32} {t0 : Int64} {t1 : Int64} {M : Mm} {R : Int64} (hK7 : ∀ (z0 : Int64) (z1 : Int32) (R : Int64), K7 (z0, z1) = some R → WP l G tc D lay (fun _ => True) RX10 cX10_reached 6 rX10_reached (.code yX10_reached cX10_reached 6 (some .long)) 7 [some (.ref 69), none, some (.long z0), none, some (.int z1), none] [] M (RetQ cX10_reached (some .long) (RQL R M))) (h : BX10_reached_76 N K7 a4 a5 t0 t1 M = some R) : WP l G tc D lay (fun _ => True) RX10 cX10_reached 6 rX10_reached (.code yX10_reached cX10_reached 6 (some .long)) 76 [some (.ref 69), none, none, none, some (.int a4), some (.int a5)] [.long t1, .long t0] M (RetQ cX10_reached (some .long) (RQL R M)) := by
  unfold BX10_reached_76 at h
  refine WP.lor dX10_reached_76 ?_
  refine WP.lstore_n dX10_reached_77 rfl (by decide) rfl rfl ?_
  refine WP.lload_n dX10_reached_78 rfl rfl ?_
  refine WP.iload dX10_reached_79 rfl ?_
  refine WP.iconst (v := 2) dX10_reached_81 (by decide) ?_
  refine WP.icmp_le (tgt := 97) dX10_reached_82 (by decide) (fun c1 => ?_) (fun c1 => ?_)
  · rw [if_pos c1] at h
    refine WP.lconst (v := 0) dX10_reached_97 (by decide) ?_
    refine WP.lor dX10_reached_98 ?_
    refine WP.lstore_n dX10_reached_99 rfl (by decide) rfl rfl ?_
    refine WP.iinc (v := (a4 + (-1))) dX10_reached_100 rfl rfl (by decide) rfl rfl ?_
    refine WP.goto (tgt := 7) dX10_reached_103 (by decide) ?_
    refine WP.fgt [true, false, true, false, true, false] rfl ?_
    exact hK7 ((t0 ||| t1) ||| 0) (a4 + (-1)) _ h
  · rw [if_neg c1] at h
    refine WP.lconst (v := 1) dX10_reached_85 (by decide) ?_
    refine WP.aload_n dX10_reached_86 rfl rfl ?_
    refine WP.getR (j := 9) dX10_reached_87 rfl rfl in_X10 (by decide) wd_701 rfl ?_
    refine WP.iload dX10_reached_90 rfl ?_
    obtain ⟨v2, h3, h⟩ := Option.bind_eq_some_iff.mp h
    refine WP.ialdQ dX10_reached_92 rfl h3 ?_
    refine WP.lshl dX10_reached_93 ?_
    refine WP.goto (tgt := 98) dX10_reached_94 (by decide) ?_
    refine WP.lor dX10_reached_98 ?_
    refine WP.lstore_n dX10_reached_99 rfl (by decide) rfl rfl ?_
    refine WP.iinc (v := (a4 + (-1))) dX10_reached_100 rfl rfl (by decide) rfl rfl ?_
    refine WP.goto (tgt := 7) dX10_reached_103 (by decide) ?_
    refine WP.fgt [true, false, true, false, true, false] rfl ?_
    exact hK7 ((t0 ||| t1) ||| ((1 : Int64) <<< (v2.toInt64 &&& 63))) (a4 + (-1)) _ h
set_option maxRecDepth 20000 in
theorem tX10_reached_54 {l : Launch} {G : va_G} {tc : Nat → ClassId} {D : Nat → Nat} {N : Nat} {K7 : Int64 × Int32 → Option Int64} {a4 : Int32} {a5 : Int32} {t0 : Int64} {t1 : Int64} {M : Mm} {R : Int64} (hK7 : ∀ (z0 : Int64) (z1 : Int32) (R : Int64), K7 (z0, z1) = some R → WP l G tc D lay (fun _ => True) RX10 cX10_reached 6 rX10_reached (.code yX10_reached cX10_reached 6 (some .long)) 7 [some (.ref 69), none, some (.long z0), none, some (.int z1), none] [] M (RetQ cX10_reached (some .long) (RQL R M))) (h : BX10_reached_54 N K7 a4 a5 t0 t1 M = some R) : WP l G tc D lay (fun _ => True) RX10 cX10_reached 6 rX10_reached (.code yX10_reached cX10_reached 6 (some .long)) 54 [some (.ref 69), none, none, none, some (.int a4), some (.int a5)] [.long t1, .long t0] M (RetQ cX10_reached (some .long) (RQL R M)) := by
  unfold BX10_reached_54 at h
  refine WP.lor dX10_reached_54 ?_
  refine WP.lstore_n dX10_reached_55 rfl (by decide) rfl rfl ?_
  refine WP.lload_n dX10_reached_56 rfl rfl ?_
  refine WP.iload dX10_reached_57 rfl ?_
  refine WP.iconst (v := 1) dX10_reached_59 (by decide) ?_
  refine WP.icmp_le (tgt := 75) dX10_reached_60 (by decide) (fun c1 => ?_) (fun c1 => ?_)
  · rw [if_pos c1] at h
    refine WP.lconst (v := 0) dX10_reached_75 (by decide) ?_
    refine WP.fgt [true, false, false, false, true, true] rfl ?_
    exact tX10_reached_76 hK7 h
  · rw [if_neg c1] at h
    refine WP.lconst (v := 1) dX10_reached_63 (by decide) ?_
    refine WP.aload_n dX10_reached_64 rfl rfl ?_
    refine WP.getR (j := 8) dX10_reached_65 rfl rfl in_X10 (by decide) wd_700 rfl ?_
    refine WP.iload dX10_reached_68 rfl ?_
    obtain ⟨v2, h3, h⟩ := Option.bind_eq_some_iff.mp h
    refine WP.ialdQ dX10_reached_70 rfl h3 ?_
    refine WP.lshl dX10_reached_71 ?_
    refine WP.goto (tgt := 76) dX10_reached_72 (by decide) ?_
    refine WP.fgt [true, false, false, false, true, true] rfl ?_
    exact tX10_reached_76 hK7 h
set_option maxRecDepth 20000 in
theorem tX10_reached_7 {l : Launch} {G : va_G} {tc : Nat → ClassId} {D : Nat → Nat} {N : Nat} {M : Mm} : ∀ (nn : Nat) (q : Int64 × Int32) (R : Int64), lp (BX10_reached_7 N M) nn q = some R → WP l G tc D lay (fun _ => True) RX10 cX10_reached 6 rX10_reached (.code yX10_reached cX10_reached 6 (some .long)) 7 [some (.ref 69), none, some (.long q.1), none, some (.int q.2), none] [] M (RetQ cX10_reached (some .long) (RQL R M)) := by
  refine lp_ind (fun K7 hK7q q R h => ?_)
  have hK7 : ∀ (z0 : Int64) (z1 : Int32) (R : Int64), K7 (z0, z1) = some R → WP l G tc D lay (fun _ => True) RX10 cX10_reached 6 rX10_reached (.code yX10_reached cX10_reached 6 (some .long)) 7 [some (.ref 69), none, some (.long z0), none, some (.int z1), none] [] M (RetQ cX10_reached (some .long) (RQL R M)) := fun z0 z1 R hh => hK7q (z0, z1) R hh
  unfold BX10_reached_7 at h
  refine WP.iload dX10_reached_7 rfl ?_
  refine WP.if_lt (tgt := 106) dX10_reached_9 (by decide) (fun c1 => ?_) (fun c1 => ?_)
  · rw [if_pos c1] at h
    refine WP.lload_n dX10_reached_106 rfl rfl ?_
    cases h
    exact WP.lret dX10_reached_107 ⟨rfl, rfl⟩
  · rw [if_neg c1] at h
    refine WP.lload_n dX10_reached_12 rfl rfl ?_
    refine WP.iload dX10_reached_13 rfl ?_
    refine WP.lshr dX10_reached_15 ?_
    refine WP.lconst (v := 1) dX10_reached_16 (by decide) ?_
    refine WP.land dX10_reached_17 ?_
    refine WP.lconst (v := 1) dX10_reached_18 (by decide) ?_
    refine WP.lcmp dX10_reached_19 ?_
    refine WP.if_ne (tgt := 100) dX10_reached_20 (by decide) (fun c2 => ?_) (fun c2 => ?_)
    · rw [if_neg c2] at h
      refine WP.iinc (v := (q.2 + (-1))) dX10_reached_100 rfl rfl (by decide) rfl rfl ?_
      refine WP.goto (tgt := 7) dX10_reached_103 (by decide) ?_
      refine WP.fgt [true, false, true, false, true, false] rfl ?_
      exact hK7 q.1 (q.2 + (-1)) _ h
    · rw [if_pos c2] at h
      refine WP.aload_n dX10_reached_23 rfl rfl ?_
      refine WP.getR (j := 6) dX10_reached_24 rfl rfl in_X10 (by decide) wd_698 rfl ?_
      refine WP.iload dX10_reached_27 rfl ?_
      obtain ⟨v3, h4, h⟩ := Option.bind_eq_some_iff.mp h
      refine WP.ialdQ dX10_reached_29 rfl h4 ?_
      obtain ⟨r6, h5, h⟩ := Option.bind_eq_some_iff.mp h
      refine WP.callSI [.int v3] dX10_reached_30 lk_X10_106 rfl (Nat.le_of_ble_eq_true rfl) (by decide) (Nat.le_of_ble_eq_true rfl) rfl (TX10_partsOf h5) ?_
      refine WP.istore dX10_reached_33 (by decide) rfl rfl ?_
      refine WP.lload_n dX10_reached_35 rfl rfl ?_
      refine WP.iload dX10_reached_36 rfl ?_
      refine WP.if_le (tgt := 53) dX10_reached_38 (by decide) (fun c7 => ?_) (fun c7 => ?_)
      · rw [if_pos c7] at h
        refine WP.lconst (v := 0) dX10_reached_53 (by decide) ?_
        refine WP.fgt [true, false, false, false, true, true] rfl ?_
        exact tX10_reached_54 hK7 h
      · rw [if_neg c7] at h
        refine WP.lconst (v := 1) dX10_reached_41 (by decide) ?_
        refine WP.aload_n dX10_reached_42 rfl rfl ?_
        refine WP.getR (j := 7) dX10_reached_43 rfl rfl in_X10 (by decide) wd_699 rfl ?_
        refine WP.iload dX10_reached_46 rfl ?_
        obtain ⟨v8, h9, h⟩ := Option.bind_eq_some_iff.mp h
        refine WP.ialdQ dX10_reached_48 rfl h9 ?_
        refine WP.lshl dX10_reached_49 ?_
        refine WP.goto (tgt := 54) dX10_reached_50 (by decide) ?_
        refine WP.fgt [true, false, false, false, true, true] rfl ?_
        exact tX10_reached_54 hK7 h
theorem uX10_reached_7 {l : Launch} {G : va_G} {tc : Nat → ClassId} {D : Nat → Nat} {N : Nat} {M : Mm} (nn : Nat) : ∀ (z0 : Int64) (z1 : Int32) (R : Int64), lp (BX10_reached_7 N M) nn (z0, z1) = some R → WP l G tc D lay (fun _ => True) RX10 cX10_reached 6 rX10_reached (.code yX10_reached cX10_reached 6 (some .long)) 7 [some (.ref 69), none, some (.long z0), none, some (.int z1), none] [] M (RetQ cX10_reached (some .long) (RQL R M)) := fun z0 z1 R hh => tX10_reached_7  nn (z0, z1) R hh
set_option maxRecDepth 20000 in
theorem TX10_reached {l : Launch} {G : va_G} {tc : Nat → ClassId} {D : Nat → Nat} {N : Nat} {x1 : Int32} {M : Mm} {R : Int64} (h : FX10_reached N x1 M = some R) : WP l G tc D lay (fun _ => True) yX10_reached.cls cX10_reached 6 rX10_reached (.code yX10_reached cX10_reached 6 (some .long)) 0 (entL 6 [.ref 69, .int x1]) [] M (RetQ cX10_reached (some .long) (RQL R M)) := by
  show WP l G tc D lay (fun _ => True) RX10 cX10_reached 6 rX10_reached (.code yX10_reached cX10_reached 6 (some .long)) 0 [some (.ref 69), some (.int x1), none, none, none, none] [] M (RetQ cX10_reached (some .long) (RQL R M))
  unfold FX10_reached at h
  refine WP.lconst (v := 1) dX10_reached_0 (by decide) ?_
  refine WP.iload_n dX10_reached_1 rfl rfl ?_
  refine WP.lshl dX10_reached_2 ?_
  refine WP.lstore_n dX10_reached_3 rfl (by decide) rfl rfl ?_
  refine WP.iload_n dX10_reached_4 rfl rfl ?_
  refine WP.istore dX10_reached_5 (by decide) rfl rfl ?_
  refine WP.fgt [true, false, true, false, true, false] rfl ?_
  exact uX10_reached_7  N ((1 : Int64) <<< (x1.toInt64 &&& 63)) x1 _ h
/-! X10_fieldsOf -/
def rX10_fieldsOf : Room := { frames := 1, cells := 0, slots := 0, locals := 20 }
def BX10_fieldsOf_5 (N : Nat) (M : Mm) (K5 : Int64 × Int32 × Int32 → Option Int32) (q : Int64 × Int32 × Int32) : Option Int32 :=
  (if (M.1 69 5) ≤ q.2.2 then some q.2.1 else (if (lg_cmp ((q.1 >>> (q.2.2.toInt64 &&& 63)) &&& 1) 1) = 0 then (rdI M 74 50 q.2.2).bind fun v3 => (FX10_isOfField v3 M).bind fun r6 => (if r6 = 0 then K5 (q.1, (q.2.1 ||| 0), (q.2.2 + 1)) else (rdI M 75 50 q.2.2).bind fun v8 => K5 (q.1, (q.2.1 ||| ((1 : Int32) <<< (v8 &&& 31))), (q.2.2 + 1))) else K5 (q.1, (q.2.1 ||| 0), (q.2.2 + 1))))
def FX10_fieldsOf (N : Nat) (x1 : Int64) (M : Mm) : Option Int32 :=
  lp (BX10_fieldsOf_5 N M) N (x1, 0, 0)
theorem eBX10_fieldsOf_5 (N : Nat) (M : Mm) (K5 : Int64 × Int32 × Int32 → Option Int32) (q : Int64 × Int32 × Int32) : BX10_fieldsOf_5 N M K5 q = (if (M.1 69 5) ≤ q.2.2 then some q.2.1 else (if (lg_cmp ((q.1 >>> (q.2.2.toInt64 &&& 63)) &&& 1) 1) = 0 then (rdI M 74 50 q.2.2).bind fun v3 => (FX10_isOfField v3 M).bind fun r6 => (if r6 = 0 then K5 (q.1, (q.2.1 ||| 0), (q.2.2 + 1)) else (rdI M 75 50 q.2.2).bind fun v8 => K5 (q.1, (q.2.1 ||| ((1 : Int32) <<< (v8 &&& 31))), (q.2.2 + 1))) else K5 (q.1, (q.2.1 ||| 0), (q.2.2 + 1)))) := rfl
theorem eFX10_fieldsOf (N : Nat) (x1 : Int64) (M : Mm) : FX10_fieldsOf N x1 M = lp (BX10_fieldsOf_5 N M) N (x1, 0, 0) := rfl
set_option maxRecDepth 20000 in
theorem tX10_fieldsOf_5 {l : Launch} {G : va_G} {tc : Nat → ClassId} {D : Nat → Nat} {N : Nat} {M : Mm} : ∀ (nn : Nat) (q : Int64 × Int32 × Int32) (R : Int32), lp (BX10_fieldsOf_5 N M) nn q = some R → WP l G tc D lay (fun _ => True) RX10 cX10_fieldsOf 5 rX10_fieldsOf (.code yX10_fieldsOf cX10_fieldsOf 5 (some .int)) 5 [some (.ref 69), some (.long q.1), none, some (.int q.2.1), some (.int q.2.2)] [] M (RetQ cX10_fieldsOf (some .int) (RQI R M)) := by
  refine lp_ind (fun K5 hK5q q R h => ?_)
  have hK5 : ∀ (z0 : Int64) (z1 : Int32) (z2 : Int32) (R : Int32), K5 (z0, z1, z2) = some R → WP l G tc D lay (fun _ => True) RX10 cX10_fieldsOf 5 rX10_fieldsOf (.code yX10_fieldsOf cX10_fieldsOf 5 (some .int)) 5 [some (.ref 69), some (.long z0), none, some (.int z1), some (.int z2)] [] M (RetQ cX10_fieldsOf (some .int) (RQI R M)) := fun z0 z1 z2 R hh => hK5q (z0, z1, z2) R hh
  unfold BX10_fieldsOf_5 at h
  refine WP.iload dX10_fieldsOf_5 rfl ?_
  refine WP.aload_n dX10_fieldsOf_7 rfl rfl ?_
  refine WP.getI (j := 5) dX10_fieldsOf_8 rfl rfl in_X10 (by decide) wd_697 rfl ?_
  refine WP.icmp_ge (tgt := 60) dX10_fieldsOf_11 (by decide) (fun c1 => ?_) (fun c1 => ?_)
  · rw [if_pos c1] at h
    refine WP.iload_n dX10_fieldsOf_60 rfl rfl ?_
    cases h
    exact WP.iret dX10_fieldsOf_61 ⟨rfl, rfl⟩
  · rw [if_neg c1] at h
    refine WP.iload_n dX10_fieldsOf_14 rfl rfl ?_
    refine WP.lload_n dX10_fieldsOf_15 rfl rfl ?_
    refine WP.iload dX10_fieldsOf_16 rfl ?_
    refine WP.lshr dX10_fieldsOf_18 ?_
    refine WP.lconst (v := 1) dX10_fieldsOf_19 (by decide) ?_
    refine WP.land dX10_fieldsOf_20 ?_
    refine WP.lconst (v := 1) dX10_fieldsOf_21 (by decide) ?_
    refine WP.lcmp dX10_fieldsOf_22 ?_
    refine WP.if_ne (tgt := 51) dX10_fieldsOf_23 (by decide) (fun c2 => ?_) (fun c2 => ?_)
    · rw [if_neg c2] at h
      refine WP.iconst (v := 0) dX10_fieldsOf_51 (by decide) ?_
      refine WP.ior dX10_fieldsOf_52 ?_
      refine WP.istore_n dX10_fieldsOf_53 rfl (by decide) rfl rfl ?_
      refine WP.iinc (v := (q.2.2 + 1)) dX10_fieldsOf_54 rfl rfl (by decide) rfl rfl ?_
      refine WP.goto (tgt := 5) dX10_fieldsOf_57 (by decide) ?_
      refine WP.fgt [true, true, false, true, true] rfl ?_
      exact hK5 q.1 (q.2.1 ||| 0) (q.2.2 + 1) _ h
    · rw [if_pos c2] at h
      refine WP.aload_n dX10_fieldsOf_26 rfl rfl ?_
      refine WP.getR (j := 6) dX10_fieldsOf_27 rfl rfl in_X10 (by decide) wd_698 rfl ?_
      refine WP.iload dX10_fieldsOf_30 rfl ?_
      obtain ⟨v3, h4, h⟩ := Option.bind_eq_some_iff.mp h
      refine WP.ialdQ dX10_fieldsOf_32 rfl h4 ?_
      obtain ⟨r6, h5, h⟩ := Option.bind_eq_some_iff.mp h
      refine WP.callSI [.int v3] dX10_fieldsOf_33 lk_X10_110 rfl (Nat.le_of_ble_eq_true rfl) (by decide) (Nat.le_of_ble_eq_true rfl) rfl (TX10_isOfField h5) ?_
      refine WP.if_eq (tgt := 51) dX10_fieldsOf_36 (by decide) (fun c7 => ?_) (fun c7 => ?_)
      · rw [if_pos c7] at h
        refine WP.iconst (v := 0) dX10_fieldsOf_51 (by decide) ?_
        refine WP.ior dX10_fieldsOf_52 ?_
        refine WP.istore_n dX10_fieldsOf_53 rfl (by decide) rfl rfl ?_
        refine WP.iinc (v := (q.2.2 + 1)) dX10_fieldsOf_54 rfl rfl (by decide) rfl rfl ?_
        refine WP.goto (tgt := 5) dX10_fieldsOf_57 (by decide) ?_
        refine WP.fgt [true, true, false, true, true] rfl ?_
        exact hK5 q.1 (q.2.1 ||| 0) (q.2.2 + 1) _ h
      · rw [if_neg c7] at h
        refine WP.iconst (v := 1) dX10_fieldsOf_39 (by decide) ?_
        refine WP.aload_n dX10_fieldsOf_40 rfl rfl ?_
        refine WP.getR (j := 7) dX10_fieldsOf_41 rfl rfl in_X10 (by decide) wd_699 rfl ?_
        refine WP.iload dX10_fieldsOf_44 rfl ?_
        obtain ⟨v8, h9, h⟩ := Option.bind_eq_some_iff.mp h
        refine WP.ialdQ dX10_fieldsOf_46 rfl h9 ?_
        refine WP.ishl dX10_fieldsOf_47 ?_
        refine WP.goto (tgt := 52) dX10_fieldsOf_48 (by decide) ?_
        refine WP.ior dX10_fieldsOf_52 ?_
        refine WP.istore_n dX10_fieldsOf_53 rfl (by decide) rfl rfl ?_
        refine WP.iinc (v := (q.2.2 + 1)) dX10_fieldsOf_54 rfl rfl (by decide) rfl rfl ?_
        refine WP.goto (tgt := 5) dX10_fieldsOf_57 (by decide) ?_
        refine WP.fgt [true, true, false, true, true] rfl ?_
        exact hK5 q.1 (q.2.1 ||| ((1 : Int32) <<< (v8 &&& 31))) (q.2.2 + 1) _ h
theorem uX10_fieldsOf_5 {l : Launch} {G : va_G} {tc : Nat → ClassId} {D : Nat → Nat} {N : Nat} {M : Mm} (nn : Nat) : ∀ (z0 : Int64) (z1 : Int32) (z2 : Int32) (R : Int32), lp (BX10_fieldsOf_5 N M) nn (z0, z1, z2) = some R → WP l G tc D lay (fun _ => True) RX10 cX10_fieldsOf 5 rX10_fieldsOf (.code yX10_fieldsOf cX10_fieldsOf 5 (some .int)) 5 [some (.ref 69), some (.long z0), none, some (.int z1), some (.int z2)] [] M (RetQ cX10_fieldsOf (some .int) (RQI R M)) := fun z0 z1 z2 R hh => tX10_fieldsOf_5  nn (z0, z1, z2) R hh
set_option maxRecDepth 20000 in
theorem TX10_fieldsOf {l : Launch} {G : va_G} {tc : Nat → ClassId} {D : Nat → Nat} {N : Nat} {x1 : Int64} {M : Mm} {R : Int32} (h : FX10_fieldsOf N x1 M = some R) : WP l G tc D lay (fun _ => True) yX10_fieldsOf.cls cX10_fieldsOf 5 rX10_fieldsOf (.code yX10_fieldsOf cX10_fieldsOf 5 (some .int)) 0 (entL 5 [.ref 69, .long x1]) [] M (RetQ cX10_fieldsOf (some .int) (RQI R M)) := by
  show WP l G tc D lay (fun _ => True) RX10 cX10_fieldsOf 5 rX10_fieldsOf (.code yX10_fieldsOf cX10_fieldsOf 5 (some .int)) 0 [some (.ref 69), some (.long x1), none, none, none] [] M (RetQ cX10_fieldsOf (some .int) (RQI R M))
  unfold FX10_fieldsOf at h
  refine WP.iconst (v := 0) dX10_fieldsOf_0 (by decide) ?_
  refine WP.istore_n dX10_fieldsOf_1 rfl (by decide) rfl rfl ?_
  refine WP.iconst (v := 0) dX10_fieldsOf_2 (by decide) ?_
  refine WP.istore dX10_fieldsOf_3 (by decide) rfl rfl ?_
  refine WP.fgt [true, true, false, true, true] rfl ?_
  exact uX10_fieldsOf_5  N x1 0 0 _ h
/-! X10_needsOf -/
def rX10_needsOf : Room := { frames := 3, cells := 0, slots := 0, locals := 67 }
def BX10_needsOf_35 (N : Nat) (a3 : Int32) (t0 : Int64) (M : Mm) : Option Int64 :=
  (if a3 < 0 then some (t0 ||| 0) else (FX10_reached N a3 M).bind fun r3 => some (t0 ||| r3))
def FX10_needsOf (N : Nat) (x1 : Int32) (M : Mm) : Option Int64 :=
  (rdI M 73 48 (((4 : Int32) * x1) + 0)).bind fun v1 => (rdI M 73 48 (((4 : Int32) * x1) + 3)).bind fun v3 => (if v1 < 0 then BX10_needsOf_35 N v3 0 M else (FX10_reached N v1 M).bind fun r7 => BX10_needsOf_35 N v3 r7 M)
theorem eBX10_needsOf_35 (N : Nat) (a3 : Int32) (t0 : Int64) (M : Mm) : BX10_needsOf_35 N a3 t0 M = (if a3 < 0 then some (t0 ||| 0) else (FX10_reached N a3 M).bind fun r3 => some (t0 ||| r3)) := rfl
theorem eFX10_needsOf (N : Nat) (x1 : Int32) (M : Mm) : FX10_needsOf N x1 M = (rdI M 73 48 (((4 : Int32) * x1) + 0)).bind fun v1 => (rdI M 73 48 (((4 : Int32) * x1) + 3)).bind fun v3 => (if v1 < 0 then BX10_needsOf_35 N v3 0 M else (FX10_reached N v1 M).bind fun r7 => BX10_needsOf_35 N v3 r7 M) := rfl
set_option maxRecDepth 20000 in
theorem tX10_needsOf_35 {l : Launch} {G : va_G} {tc : Nat → ClassId} {D : Nat → Nat} {N : Nat} {a3 : Int32} {t0 : Int64} {M : Mm} {R : Int64} (h : BX10_needsOf_35 N a3 t0 M = some R) : WP l G tc D lay (fun _ => True) RX10 cX10_needsOf 4 rX10_needsOf (.code yX10_needsOf cX10_needsOf 4 (some .long)) 35 [some (.ref 69), none, none, some (.int a3)] [.long t0] M (RetQ cX10_needsOf (some .long) (RQL R M)) := by
  unfold BX10_needsOf_35 at h
  refine WP.iload_n dX10_needsOf_35 rfl rfl ?_
  refine WP.if_lt (tgt := 47) dX10_needsOf_36 (by decide) (fun c1 => ?_) (fun c1 => ?_)
  · rw [if_pos c1] at h
    refine WP.lconst (v := 0) dX10_needsOf_47 (by decide) ?_
    refine WP.lor dX10_needsOf_48 ?_
    cases h
    exact WP.lret dX10_needsOf_49 ⟨rfl, rfl⟩
  · rw [if_neg c1] at h
    refine WP.aload_n dX10_needsOf_39 rfl rfl ?_
    refine WP.iload_n dX10_needsOf_40 rfl rfl ?_
    obtain ⟨r3, h2, h⟩ := Option.bind_eq_some_iff.mp h
    refine WP.callVL [.int a3] dX10_needsOf_41 lk_X10_122 rfl rfl rfl (Nat.le_of_ble_eq_true rfl) (by decide) (Nat.le_of_ble_eq_true rfl) rfl (TX10_reached h2) ?_
    refine WP.goto (tgt := 48) dX10_needsOf_44 (by decide) ?_
    refine WP.lor dX10_needsOf_48 ?_
    cases h
    exact WP.lret dX10_needsOf_49 ⟨rfl, rfl⟩
set_option maxRecDepth 20000 in
theorem TX10_needsOf {l : Launch} {G : va_G} {tc : Nat → ClassId} {D : Nat → Nat} {N : Nat} {x1 : Int32} {M : Mm} {R : Int64} (h : FX10_needsOf N x1 M = some R) : WP l G tc D lay (fun _ => True) yX10_needsOf.cls cX10_needsOf 4 rX10_needsOf (.code yX10_needsOf cX10_needsOf 4 (some .long)) 0 (entL 4 [.ref 69, .int x1]) [] M (RetQ cX10_needsOf (some .long) (RQL R M)) := by
  show WP l G tc D lay (fun _ => True) RX10 cX10_needsOf 4 rX10_needsOf (.code yX10_needsOf cX10_needsOf 4 (some .long)) 0 [some (.ref 69), some (.int x1), none, none] [] M (RetQ cX10_needsOf (some .long) (RQL R M))
  unfold FX10_needsOf at h
  refine WP.aload_n dX10_needsOf_0 rfl rfl ?_
  refine WP.getR (j := 4) dX10_needsOf_1 rfl rfl in_X10 (by decide) wd_696 rfl ?_
  refine WP.iconst (v := 4) dX10_needsOf_4 (by decide) ?_
  refine WP.iload_n dX10_needsOf_5 rfl rfl ?_
  refine WP.imul dX10_needsOf_6 ?_
  refine WP.iconst (v := 0) dX10_needsOf_7 (by decide) ?_
  refine WP.iadd dX10_needsOf_8 ?_
  obtain ⟨v1, h2, h⟩ := Option.bind_eq_some_iff.mp h
  refine WP.ialdQ dX10_needsOf_9 rfl h2 ?_
  refine WP.istore_n dX10_needsOf_10 rfl (by decide) rfl rfl ?_
  refine WP.aload_n dX10_needsOf_11 rfl rfl ?_
  refine WP.getR (j := 4) dX10_needsOf_12 rfl rfl in_X10 (by decide) wd_696 rfl ?_
  refine WP.iconst (v := 4) dX10_needsOf_15 (by decide) ?_
  refine WP.iload_n dX10_needsOf_16 rfl rfl ?_
  refine WP.imul dX10_needsOf_17 ?_
  refine WP.iconst (v := 3) dX10_needsOf_18 (by decide) ?_
  refine WP.iadd dX10_needsOf_19 ?_
  obtain ⟨v3, h4, h⟩ := Option.bind_eq_some_iff.mp h
  refine WP.ialdQ dX10_needsOf_20 rfl h4 ?_
  refine WP.istore_n dX10_needsOf_21 rfl (by decide) rfl rfl ?_
  refine WP.iload_n dX10_needsOf_22 rfl rfl ?_
  refine WP.if_lt (tgt := 34) dX10_needsOf_23 (by decide) (fun c5 => ?_) (fun c5 => ?_)
  · rw [if_pos c5] at h
    refine WP.lconst (v := 0) dX10_needsOf_34 (by decide) ?_
    refine WP.fgt [true, false, false, true] rfl ?_
    exact tX10_needsOf_35  h
  · rw [if_neg c5] at h
    refine WP.aload_n dX10_needsOf_26 rfl rfl ?_
    refine WP.iload_n dX10_needsOf_27 rfl rfl ?_
    obtain ⟨r7, h6, h⟩ := Option.bind_eq_some_iff.mp h
    refine WP.callVL [.int v1] dX10_needsOf_28 lk_X10_122 rfl rfl rfl (Nat.le_of_ble_eq_true rfl) (by decide) (Nat.le_of_ble_eq_true rfl) rfl (TX10_reached h6) ?_
    refine WP.goto (tgt := 35) dX10_needsOf_31 (by decide) ?_
    refine WP.fgt [true, false, false, true] rfl ?_
    exact tX10_needsOf_35  h
/-! X10_count -/
def rX10_count : Room := { frames := 0, cells := 0, slots := 0, locals := 0 }
def BX10_count_4 (N : Nat) (M : Mm) (K4 : Int32 × Int32 × Int32 → Option Int32) (q : Int32 × Int32 × Int32) : Option Int32 :=
  (if 12 ≤ q.2.2 then some q.2.1 else K4 (q.1, (q.2.1 + ((q.1 >>> (q.2.2 &&& 31)) &&& 1)), (q.2.2 + 1)))
def FX10_count (N : Nat) (x1 : Int32) (M : Mm) : Option Int32 :=
  lp (BX10_count_4 N M) N (x1, 0, 0)
theorem eBX10_count_4 (N : Nat) (M : Mm) (K4 : Int32 × Int32 × Int32 → Option Int32) (q : Int32 × Int32 × Int32) : BX10_count_4 N M K4 q = (if 12 ≤ q.2.2 then some q.2.1 else K4 (q.1, (q.2.1 + ((q.1 >>> (q.2.2 &&& 31)) &&& 1)), (q.2.2 + 1))) := rfl
theorem eFX10_count (N : Nat) (x1 : Int32) (M : Mm) : FX10_count N x1 M = lp (BX10_count_4 N M) N (x1, 0, 0) := rfl
set_option maxRecDepth 20000 in
theorem tX10_count_4 {l : Launch} {G : va_G} {tc : Nat → ClassId} {D : Nat → Nat} {N : Nat} {M : Mm} : ∀ (nn : Nat) (q : Int32 × Int32 × Int32) (R : Int32), lp (BX10_count_4 N M) nn q = some R → WP l G tc D lay (fun _ => True) RX10 cX10_count 3 rX10_count (.code yX10_count cX10_count 3 (some .int)) 4 [some (.int q.1), some (.int q.2.1), some (.int q.2.2)] [] M (RetQ cX10_count (some .int) (RQI R M)) := by
  refine lp_ind (fun K4 hK4q q R h => ?_)
  have hK4 : ∀ (z0 : Int32) (z1 : Int32) (z2 : Int32) (R : Int32), K4 (z0, z1, z2) = some R → WP l G tc D lay (fun _ => True) RX10 cX10_count 3 rX10_count (.code yX10_count cX10_count 3 (some .int)) 4 [some (.int z0), some (.int z1), some (.int z2)] [] M (RetQ cX10_count (some .int) (RQI R M)) := fun z0 z1 z2 R hh => hK4q (z0, z1, z2) R hh
  unfold BX10_count_4 at h
  refine WP.iload_n dX10_count_4 rfl rfl ?_
  refine WP.bipush (v := 12) dX10_count_5 (by decide) ?_
  refine WP.icmp_ge (tgt := 24) dX10_count_7 (by decide) (fun c1 => ?_) (fun c1 => ?_)
  · rw [if_pos c1] at h
    refine WP.iload_n dX10_count_24 rfl rfl ?_
    cases h
    exact WP.iret dX10_count_25 ⟨rfl, rfl⟩
  · rw [if_neg c1] at h
    refine WP.iload_n dX10_count_10 rfl rfl ?_
    refine WP.iload_n dX10_count_11 rfl rfl ?_
    refine WP.iload_n dX10_count_12 rfl rfl ?_
    refine WP.ishr dX10_count_13 ?_
    refine WP.iconst (v := 1) dX10_count_14 (by decide) ?_
    refine WP.iand dX10_count_15 ?_
    refine WP.iadd dX10_count_16 ?_
    refine WP.istore_n dX10_count_17 rfl (by decide) rfl rfl ?_
    refine WP.iinc (v := (q.2.2 + 1)) dX10_count_18 rfl rfl (by decide) rfl rfl ?_
    refine WP.goto (tgt := 4) dX10_count_21 (by decide) ?_
    refine WP.fgt [true, true, true] rfl ?_
    exact hK4 q.1 (q.2.1 + ((q.1 >>> (q.2.2 &&& 31)) &&& 1)) (q.2.2 + 1) _ h
theorem uX10_count_4 {l : Launch} {G : va_G} {tc : Nat → ClassId} {D : Nat → Nat} {N : Nat} {M : Mm} (nn : Nat) : ∀ (z0 : Int32) (z1 : Int32) (z2 : Int32) (R : Int32), lp (BX10_count_4 N M) nn (z0, z1, z2) = some R → WP l G tc D lay (fun _ => True) RX10 cX10_count 3 rX10_count (.code yX10_count cX10_count 3 (some .int)) 4 [some (.int z0), some (.int z1), some (.int z2)] [] M (RetQ cX10_count (some .int) (RQI R M)) := fun z0 z1 z2 R hh => tX10_count_4  nn (z0, z1, z2) R hh
set_option maxRecDepth 20000 in
theorem TX10_count {l : Launch} {G : va_G} {tc : Nat → ClassId} {D : Nat → Nat} {N : Nat} {x1 : Int32} {M : Mm} {R : Int32} (h : FX10_count N x1 M = some R) : WP l G tc D lay (fun _ => True) yX10_count.cls cX10_count 3 rX10_count (.code yX10_count cX10_count 3 (some .int)) 0 (entL 3 [.int x1]) [] M (RetQ cX10_count (some .int) (RQI R M)) := by
  show WP l G tc D lay (fun _ => True) RX10 cX10_count 3 rX10_count (.code yX10_count cX10_count 3 (some .int)) 0 [some (.int x1), none, none] [] M (RetQ cX10_count (some .int) (RQI R M))
  unfold FX10_count at h
  refine WP.iconst (v := 0) dX10_count_0 (by decide) ?_
  refine WP.istore_n dX10_count_1 rfl (by decide) rfl rfl ?_
  refine WP.iconst (v := 0) dX10_count_2 (by decide) ?_
  refine WP.istore_n dX10_count_3 rfl (by decide) rfl rfl ?_
  refine WP.fgt [true, true, true] rfl ?_
  exact uX10_count_4  N x1 0 0 _ h
/-! X10_findHangs -/
def rX10_findHangs : Room := { frames := 4, cells := 0, slots := 0, locals := 90 }
def BX10_findHangs_77 (N : Nat) (K57 : Int32 × Mm → Option Mm) (K67 : Int32 × Int32 × Mm → Option Mm) (K77 : Int32 × Int32 × Int32 × Mm → Option Mm) (q : Int32 × Int32 × Int32 × Mm) : Option Mm :=
  (if (q.2.2.2.1 69 0) ≤ q.2.2.1 then K67 (q.1, (q.2.1 + 1), q.2.2.2) else (rdI q.2.2.2 79 12 q.2.1).bind fun v2 => (rdI q.2.2.2 79 12 q.2.1).bind fun v4 => (if ((v4 >>> (q.2.2.1 &&& 31)) &&& 1) = 1 then (rdI q.2.2.2 79 12 q.2.2.1).bind fun v9 => (wrI q.2.2.2 79 12 q.2.1 (v2 ||| v9)).bind fun M11 => K77 (q.1, q.2.1, (q.2.2.1 + 1), M11) else (wrI q.2.2.2 79 12 q.2.1 (v2 ||| 0)).bind fun M7 => K77 (q.1, q.2.1, (q.2.2.1 + 1), M7)))
def BX10_findHangs_67 (N : Nat) (K57 : Int32 × Mm → Option Mm) (K67 : Int32 × Int32 × Mm → Option Mm) (q : Int32 × Int32 × Mm) : Option Mm :=
  (if (q.2.2.1 69 0) ≤ q.2.1 then K57 ((q.1 + 1), q.2.2) else lp (BX10_findHangs_77 N K57 K67) N (q.1, q.2.1, 0, q.2.2))
def BX10_findHangs_57 (N : Nat) (K57 : Int32 × Mm → Option Mm) (q : Int32 × Mm) : Option Mm :=
  (if (q.2.1 69 0) ≤ q.1 then some q.2 else lp (BX10_findHangs_67 N K57) N (q.1, 0, q.2))
def BX10_findHangs_2 (N : Nat) (K2 : Int32 × Mm → Option Mm) (q : Int32 × Mm) : Option Mm :=
  (if (q.2.1 69 0) ≤ q.1 then lp (BX10_findHangs_57 N) N (0, q.2) else (FX10_needsOf N q.1 q.2).bind fun r3 => (wrL q.2 80 12 q.1 r3).bind fun M4 => (rdL M4 80 12 q.1).bind fun v6 => (FX10_fieldsOf N v6 M4).bind fun r9 => (wrI M4 78 12 q.1 r9).bind fun M10 => (rdI M10 78 12 q.1).bind fun v12 => (wrI M10 79 12 q.1 v12).bind fun M14 => K2 ((q.1 + 1), M14))
def FX10_findHangs (N : Nat) (M : Mm) : Option Mm :=
  lp (BX10_findHangs_2 N) N (0, M)
theorem eBX10_findHangs_77 (N : Nat) (K57 : Int32 × Mm → Option Mm) (K67 : Int32 × Int32 × Mm → Option Mm) (K77 : Int32 × Int32 × Int32 × Mm → Option Mm) (q : Int32 × Int32 × Int32 × Mm) : BX10_findHangs_77 N K57 K67 K77 q = (if (q.2.2.2.1 69 0) ≤ q.2.2.1 then K67 (q.1, (q.2.1 + 1), q.2.2.2) else (rdI q.2.2.2 79 12 q.2.1).bind fun v2 => (rdI q.2.2.2 79 12 q.2.1).bind fun v4 => (if ((v4 >>> (q.2.2.1 &&& 31)) &&& 1) = 1 then (rdI q.2.2.2 79 12 q.2.2.1).bind fun v9 => (wrI q.2.2.2 79 12 q.2.1 (v2 ||| v9)).bind fun M11 => K77 (q.1, q.2.1, (q.2.2.1 + 1), M11) else (wrI q.2.2.2 79 12 q.2.1 (v2 ||| 0)).bind fun M7 => K77 (q.1, q.2.1, (q.2.2.1 + 1), M7))) := rfl
theorem eBX10_findHangs_67 (N : Nat) (K57 : Int32 × Mm → Option Mm) (K67 : Int32 × Int32 × Mm → Option Mm) (q : Int32 × Int32 × Mm) : BX10_findHangs_67 N K57 K67 q = (if (q.2.2.1 69 0) ≤ q.2.1 then K57 ((q.1 + 1), q.2.2) else lp (BX10_findHangs_77 N K57 K67) N (q.1, q.2.1, 0, q.2.2)) := rfl
theorem eBX10_findHangs_57 (N : Nat) (K57 : Int32 × Mm → Option Mm) (q : Int32 × Mm) : BX10_findHangs_57 N K57 q = (if (q.2.1 69 0) ≤ q.1 then some q.2 else lp (BX10_findHangs_67 N K57) N (q.1, 0, q.2)) := rfl
theorem eBX10_findHangs_2 (N : Nat) (K2 : Int32 × Mm → Option Mm) (q : Int32 × Mm) : BX10_findHangs_2 N K2 q = (if (q.2.1 69 0) ≤ q.1 then lp (BX10_findHangs_57 N) N (0, q.2) else (FX10_needsOf N q.1 q.2).bind fun r3 => (wrL q.2 80 12 q.1 r3).bind fun M4 => (rdL M4 80 12 q.1).bind fun v6 => (FX10_fieldsOf N v6 M4).bind fun r9 => (wrI M4 78 12 q.1 r9).bind fun M10 => (rdI M10 78 12 q.1).bind fun v12 => (wrI M10 79 12 q.1 v12).bind fun M14 => K2 ((q.1 + 1), M14)) := rfl
theorem eFX10_findHangs (N : Nat) (M : Mm) : FX10_findHangs N M = lp (BX10_findHangs_2 N) N (0, M) := rfl
set_option maxRecDepth 20000 in
theorem tX10_findHangs_77 {l : Launch} {G : va_G} {tc : Nat → ClassId} {D : Nat → Nat} {N : Nat} {K57 : Int32 × Mm → Option Mm} {K67 : Int32 × Int32 × Mm → Option Mm} (hK57 : ∀ (z0 : Int32) (z1 : Mm) (R : Mm), K57 (z0, z1) = some R → WP l G tc D lay (fun _ => True) RX10 cX10_findHangs 4 rX10_findHangs (.code yX10_findHangs cX10_findHangs 4 none) 57 [some (.ref 69), some (.int z0), none, none] [] z1 (RetQ cX10_findHangs none (RQV R))) (hK67 : ∀ (z0 : Int32) (z1 : Int32) (z2 : Mm) (R : Mm), K67 (z0, z1, z2) = some R → WP l G tc D lay (fun _ => True) RX10 cX10_findHangs 4 rX10_findHangs (.code yX10_findHangs cX10_findHangs 4 none) 67 [some (.ref 69), some (.int z0), some (.int z1), none] [] z2 (RetQ cX10_findHangs none (RQV R))) : ∀ (nn : Nat) (q : Int32 × Int32 × Int32 × Mm) (R : Mm), lp (BX10_findHangs_77 N K57 K67) nn q = some R → WP l G tc D lay (fun _ => True) RX10 cX10_findHangs 4 rX10_findHangs (.code yX10_findHangs cX10_findHangs 4 none) 77 [some (.ref 69), some (.int q.1), some (.int q.2.1), some (.int q.2.2.1)] [] q.2.2.2 (RetQ cX10_findHangs none (RQV R)) := by
  refine lp_ind (fun K77 hK77q q R h => ?_)
  have hK77 : ∀ (z0 : Int32) (z1 : Int32) (z2 : Int32) (z3 : Mm) (R : Mm), K77 (z0, z1, z2, z3) = some R → WP l G tc D lay (fun _ => True) RX10 cX10_findHangs 4 rX10_findHangs (.code yX10_findHangs cX10_findHangs 4 none) 77 [some (.ref 69), some (.int z0), some (.int z1), some (.int z2)] [] z3 (RetQ cX10_findHangs none (RQV R)) := fun z0 z1 z2 z3 R hh => hK77q (z0, z1, z2, z3) R hh
  unfold BX10_findHangs_77 at h
  refine WP.iload_n dX10_findHangs_77 rfl rfl ?_
  refine WP.aload_n dX10_findHangs_78 rfl rfl ?_
  refine WP.getI (j := 0) dX10_findHangs_79 rfl rfl in_X10 (by decide) wd_692 rfl ?_
  refine WP.icmp_ge (tgt := 124) dX10_findHangs_82 (by decide) (fun c1 => ?_) (fun c1 => ?_)
  · rw [if_pos c1] at h
    refine WP.iinc (v := (q.2.1 + 1)) dX10_findHangs_124 rfl rfl (by decide) rfl rfl ?_
    refine WP.goto (tgt := 67) dX10_findHangs_127 (by decide) ?_
    refine WP.fgt [true, true, true, false] rfl ?_
    exact hK67 q.1 (q.2.1 + 1) q.2.2.2 _ h
  · rw [if_neg c1] at h
    refine WP.aload_n dX10_findHangs_85 rfl rfl ?_
    refine WP.getR (j := 12) dX10_findHangs_86 rfl rfl in_X10 (by decide) wd_704 rfl ?_
    refine WP.iload_n dX10_findHangs_89 rfl rfl ?_
    refine WP.dup2 dX10_findHangs_90 rfl rfl ?_
    obtain ⟨v2, h3, h⟩ := Option.bind_eq_some_iff.mp h
    refine WP.ialdQ dX10_findHangs_91 rfl h3 ?_
    refine WP.aload_n dX10_findHangs_92 rfl rfl ?_
    refine WP.getR (j := 12) dX10_findHangs_93 rfl rfl in_X10 (by decide) wd_704 rfl ?_
    refine WP.iload_n dX10_findHangs_96 rfl rfl ?_
    obtain ⟨v4, h5, h⟩ := Option.bind_eq_some_iff.mp h
    refine WP.ialdQ dX10_findHangs_97 rfl h5 ?_
    refine WP.iload_n dX10_findHangs_98 rfl rfl ?_
    refine WP.ishr dX10_findHangs_99 ?_
    refine WP.iconst (v := 1) dX10_findHangs_100 (by decide) ?_
    refine WP.iand dX10_findHangs_101 ?_
    refine WP.iconst (v := 1) dX10_findHangs_102 (by decide) ?_
    refine WP.icmp_ne (tgt := 115) dX10_findHangs_103 (by decide) (fun c6 => ?_) (fun c6 => ?_)
    · rw [if_neg c6] at h
      refine WP.iconst (v := 0) dX10_findHangs_115 (by decide) ?_
      refine WP.ior dX10_findHangs_116 ?_
      obtain ⟨M7, h8, h⟩ := Option.bind_eq_some_iff.mp h
      refine WP.iastQ dX10_findHangs_117 rfl h8 ?_
      refine WP.iinc (v := (q.2.2.1 + 1)) dX10_findHangs_118 rfl rfl (by decide) rfl rfl ?_
      refine WP.goto (tgt := 77) dX10_findHangs_121 (by decide) ?_
      refine WP.fgt [true, true, true, true] rfl ?_
      exact hK77 q.1 q.2.1 (q.2.2.1 + 1) M7 _ h
    · rw [if_pos c6] at h
      refine WP.aload_n dX10_findHangs_106 rfl rfl ?_
      refine WP.getR (j := 12) dX10_findHangs_107 rfl rfl in_X10 (by decide) wd_704 rfl ?_
      refine WP.iload_n dX10_findHangs_110 rfl rfl ?_
      obtain ⟨v9, h10, h⟩ := Option.bind_eq_some_iff.mp h
      refine WP.ialdQ dX10_findHangs_111 rfl h10 ?_
      refine WP.goto (tgt := 116) dX10_findHangs_112 (by decide) ?_
      refine WP.ior dX10_findHangs_116 ?_
      obtain ⟨M11, h12, h⟩ := Option.bind_eq_some_iff.mp h
      refine WP.iastQ dX10_findHangs_117 rfl h12 ?_
      refine WP.iinc (v := (q.2.2.1 + 1)) dX10_findHangs_118 rfl rfl (by decide) rfl rfl ?_
      refine WP.goto (tgt := 77) dX10_findHangs_121 (by decide) ?_
      refine WP.fgt [true, true, true, true] rfl ?_
      exact hK77 q.1 q.2.1 (q.2.2.1 + 1) M11 _ h
theorem uX10_findHangs_77 {l : Launch} {G : va_G} {tc : Nat → ClassId} {D : Nat → Nat} {N : Nat} {K57 : Int32 × Mm → Option Mm} {K67 : Int32 × Int32 × Mm → Option Mm} (hK57 : ∀ (z0 : Int32) (z1 : Mm) (R : Mm), K57 (z0, z1) = some R → WP l G tc D lay (fun _ => True) RX10 cX10_findHangs 4 rX10_findHangs (.code yX10_findHangs cX10_findHangs 4 none) 57 [some (.ref 69), some (.int z0), none, none] [] z1 (RetQ cX10_findHangs none (RQV R))) (hK67 : ∀ (z0 : Int32) (z1 : Int32) (z2 : Mm) (R : Mm), K67 (z0, z1, z2) = some R → WP l G tc D lay (fun _ => True) RX10 cX10_findHangs 4 rX10_findHangs (.code yX10_findHangs cX10_findHangs 4 none) 67 [some (.ref 69), some (.int z0), some (.int z1), none] [] z2 (RetQ cX10_findHangs none (RQV R))) (nn : Nat) : ∀ (z0 : Int32) (z1 : Int32) (z2 : Int32) (z3 : Mm) (R : Mm), lp (BX10_findHangs_77 N K57 K67) nn (z0, z1, z2, z3) = some R → WP l G tc D lay (fun _ => True) RX10 cX10_findHangs 4 rX10_findHangs (.code yX10_findHangs cX10_findHangs 4 none) 77 [some (.ref 69), some (.int z0), some (.int z1), some (.int z2)] [] z3 (RetQ cX10_findHangs none (RQV R)) := fun z0 z1 z2 z3 R hh => tX10_findHangs_77 hK57 hK67 nn (z0, z1, z2, z3) R hh
set_option maxRecDepth 20000 in
theorem tX10_findHangs_67 {l : Launch} {G : va_G} {tc : Nat → ClassId} {D : Nat → Nat} {N : Nat} {K57 : Int32 × Mm → Option Mm} (hK57 : ∀ (z0 : Int32) (z1 : Mm) (R : Mm), K57 (z0, z1) = some R → WP l G tc D lay (fun _ => True) RX10 cX10_findHangs 4 rX10_findHangs (.code yX10_findHangs cX10_findHangs 4 none) 57 [some (.ref 69), some (.int z0), none, none] [] z1 (RetQ cX10_findHangs none (RQV R))) : ∀ (nn : Nat) (q : Int32 × Int32 × Mm) (R : Mm), lp (BX10_findHangs_67 N K57) nn q = some R → WP l G tc D lay (fun _ => True) RX10 cX10_findHangs 4 rX10_findHangs (.code yX10_findHangs cX10_findHangs 4 none) 67 [some (.ref 69), some (.int q.1), some (.int q.2.1), none] [] q.2.2 (RetQ cX10_findHangs none (RQV R)) := by
  refine lp_ind (fun K67 hK67q q R h => ?_)
  have hK67 : ∀ (z0 : Int32) (z1 : Int32) (z2 : Mm) (R : Mm), K67 (z0, z1, z2) = some R → WP l G tc D lay (fun _ => True) RX10 cX10_findHangs 4 rX10_findHangs (.code yX10_findHangs cX10_findHangs 4 none) 67 [some (.ref 69), some (.int z0), some (.int z1), none] [] z2 (RetQ cX10_findHangs none (RQV R)) := fun z0 z1 z2 R hh => hK67q (z0, z1, z2) R hh
  unfold BX10_findHangs_67 at h
  refine WP.iload_n dX10_findHangs_67 rfl rfl ?_
  refine WP.aload_n dX10_findHangs_68 rfl rfl ?_
  refine WP.getI (j := 0) dX10_findHangs_69 rfl rfl in_X10 (by decide) wd_692 rfl ?_
  refine WP.icmp_ge (tgt := 130) dX10_findHangs_72 (by decide) (fun c1 => ?_) (fun c1 => ?_)
  · rw [if_pos c1] at h
    refine WP.iinc (v := (q.1 + 1)) dX10_findHangs_130 rfl rfl (by decide) rfl rfl ?_
    refine WP.goto (tgt := 57) dX10_findHangs_133 (by decide) ?_
    refine WP.fgt [true, true, false, false] rfl ?_
    exact hK57 (q.1 + 1) q.2.2 _ h
  · rw [if_neg c1] at h
    refine WP.iconst (v := 0) dX10_findHangs_75 (by decide) ?_
    refine WP.istore_n dX10_findHangs_76 rfl (by decide) rfl rfl ?_
    refine WP.fgt [true, true, true, true] rfl ?_
    exact uX10_findHangs_77 hK57 hK67 N q.1 q.2.1 0 q.2.2 _ h
theorem uX10_findHangs_67 {l : Launch} {G : va_G} {tc : Nat → ClassId} {D : Nat → Nat} {N : Nat} {K57 : Int32 × Mm → Option Mm} (hK57 : ∀ (z0 : Int32) (z1 : Mm) (R : Mm), K57 (z0, z1) = some R → WP l G tc D lay (fun _ => True) RX10 cX10_findHangs 4 rX10_findHangs (.code yX10_findHangs cX10_findHangs 4 none) 57 [some (.ref 69), some (.int z0), none, none] [] z1 (RetQ cX10_findHangs none (RQV R))) (nn : Nat) : ∀ (z0 : Int32) (z1 : Int32) (z2 : Mm) (R : Mm), lp (BX10_findHangs_67 N K57) nn (z0, z1, z2) = some R → WP l G tc D lay (fun _ => True) RX10 cX10_findHangs 4 rX10_findHangs (.code yX10_findHangs cX10_findHangs 4 none) 67 [some (.ref 69), some (.int z0), some (.int z1), none] [] z2 (RetQ cX10_findHangs none (RQV R)) := fun z0 z1 z2 R hh => tX10_findHangs_67 hK57 nn (z0, z1, z2) R hh
set_option maxRecDepth 20000 in
theorem tX10_findHangs_57 {l : Launch} {G : va_G} {tc : Nat → ClassId} {D : Nat → Nat} {N : Nat} : ∀ (nn : Nat) (q : Int32 × Mm) (R : Mm), lp (BX10_findHangs_57 N) nn q = some R → WP l G tc D lay (fun _ => True) RX10 cX10_findHangs 4 rX10_findHangs (.code yX10_findHangs cX10_findHangs 4 none) 57 [some (.ref 69), some (.int q.1), none, none] [] q.2 (RetQ cX10_findHangs none (RQV R)) := by
  refine lp_ind (fun K57 hK57q q R h => ?_)
  have hK57 : ∀ (z0 : Int32) (z1 : Mm) (R : Mm), K57 (z0, z1) = some R → WP l G tc D lay (fun _ => True) RX10 cX10_findHangs 4 rX10_findHangs (.code yX10_findHangs cX10_findHangs 4 none) 57 [some (.ref 69), some (.int z0), none, none] [] z1 (RetQ cX10_findHangs none (RQV R)) := fun z0 z1 R hh => hK57q (z0, z1) R hh
  unfold BX10_findHangs_57 at h
  refine WP.iload_n dX10_findHangs_57 rfl rfl ?_
  refine WP.aload_n dX10_findHangs_58 rfl rfl ?_
  refine WP.getI (j := 0) dX10_findHangs_59 rfl rfl in_X10 (by decide) wd_692 rfl ?_
  refine WP.icmp_ge (tgt := 136) dX10_findHangs_62 (by decide) (fun c1 => ?_) (fun c1 => ?_)
  · rw [if_pos c1] at h
    cases h
    exact WP.vret dX10_findHangs_136 ⟨rfl, rfl⟩
  · rw [if_neg c1] at h
    refine WP.iconst (v := 0) dX10_findHangs_65 (by decide) ?_
    refine WP.istore_n dX10_findHangs_66 rfl (by decide) rfl rfl ?_
    refine WP.fgt [true, true, true, false] rfl ?_
    exact uX10_findHangs_67 hK57 N q.1 0 q.2 _ h
theorem uX10_findHangs_57 {l : Launch} {G : va_G} {tc : Nat → ClassId} {D : Nat → Nat} {N : Nat} (nn : Nat) : ∀ (z0 : Int32) (z1 : Mm) (R : Mm), lp (BX10_findHangs_57 N) nn (z0, z1) = some R → WP l G tc D lay (fun _ => True) RX10 cX10_findHangs 4 rX10_findHangs (.code yX10_findHangs cX10_findHangs 4 none) 57 [some (.ref 69), some (.int z0), none, none] [] z1 (RetQ cX10_findHangs none (RQV R)) := fun z0 z1 R hh => tX10_findHangs_57  nn (z0, z1) R hh
set_option maxRecDepth 20000 in
theorem tX10_findHangs_2 {l : Launch} {G : va_G} {tc : Nat → ClassId} {D : Nat → Nat} {N : Nat} : ∀ (nn : Nat) (q : Int32 × Mm) (R : Mm), lp (BX10_findHangs_2 N) nn q = some R → WP l G tc D lay (fun _ => True) RX10 cX10_findHangs 4 rX10_findHangs (.code yX10_findHangs cX10_findHangs 4 none) 2 [some (.ref 69), some (.int q.1), none, none] [] q.2 (RetQ cX10_findHangs none (RQV R)) := by
  refine lp_ind (fun K2 hK2q q R h => ?_)
  have hK2 : ∀ (z0 : Int32) (z1 : Mm) (R : Mm), K2 (z0, z1) = some R → WP l G tc D lay (fun _ => True) RX10 cX10_findHangs 4 rX10_findHangs (.code yX10_findHangs cX10_findHangs 4 none) 2 [some (.ref 69), some (.int z0), none, none] [] z1 (RetQ cX10_findHangs none (RQV R)) := fun z0 z1 R hh => hK2q (z0, z1) R hh
  unfold BX10_findHangs_2 at h
  refine WP.iload_n dX10_findHangs_2 rfl rfl ?_
  refine WP.aload_n dX10_findHangs_3 rfl rfl ?_
  refine WP.getI (j := 0) dX10_findHangs_4 rfl rfl in_X10 (by decide) wd_692 rfl ?_
  refine WP.icmp_ge (tgt := 55) dX10_findHangs_7 (by decide) (fun c1 => ?_) (fun c1 => ?_)
  · rw [if_pos c1] at h
    refine WP.iconst (v := 0) dX10_findHangs_55 (by decide) ?_
    refine WP.istore_n dX10_findHangs_56 rfl (by decide) rfl rfl ?_
    refine WP.fgt [true, true, false, false] rfl ?_
    exact uX10_findHangs_57  N 0 q.2 _ h
  · rw [if_neg c1] at h
    refine WP.aload_n dX10_findHangs_10 rfl rfl ?_
    refine WP.getR (j := 13) dX10_findHangs_11 rfl rfl in_X10 (by decide) wd_705 rfl ?_
    refine WP.iload_n dX10_findHangs_14 rfl rfl ?_
    refine WP.aload_n dX10_findHangs_15 rfl rfl ?_
    refine WP.iload_n dX10_findHangs_16 rfl rfl ?_
    obtain ⟨r3, h2, h⟩ := Option.bind_eq_some_iff.mp h
    refine WP.callVL [.int q.1] dX10_findHangs_17 lk_X10_126 rfl rfl rfl (Nat.le_of_ble_eq_true rfl) (by decide) (Nat.le_of_ble_eq_true rfl) rfl (TX10_needsOf h2) ?_
    obtain ⟨M4, h5, h⟩ := Option.bind_eq_some_iff.mp h
    refine WP.lastQ dX10_findHangs_20 rfl h5 ?_
    refine WP.aload_n dX10_findHangs_21 rfl rfl ?_
    refine WP.getR (j := 11) dX10_findHangs_22 rfl rfl in_X10 (by decide) wd_703 rfl ?_
    refine WP.iload_n dX10_findHangs_25 rfl rfl ?_
    refine WP.aload_n dX10_findHangs_26 rfl rfl ?_
    refine WP.aload_n dX10_findHangs_27 rfl rfl ?_
    refine WP.getR (j := 13) dX10_findHangs_28 rfl rfl in_X10 (by decide) wd_705 rfl ?_
    refine WP.iload_n dX10_findHangs_31 rfl rfl ?_
    obtain ⟨v6, h7, h⟩ := Option.bind_eq_some_iff.mp h
    refine WP.laldQ dX10_findHangs_32 rfl h7 ?_
    obtain ⟨r9, h8, h⟩ := Option.bind_eq_some_iff.mp h
    refine WP.callVI [.long v6] dX10_findHangs_33 lk_X10_129 rfl rfl rfl (Nat.le_of_ble_eq_true rfl) (by decide) (Nat.le_of_ble_eq_true rfl) rfl (TX10_fieldsOf h8) ?_
    obtain ⟨M10, h11, h⟩ := Option.bind_eq_some_iff.mp h
    refine WP.iastQ dX10_findHangs_36 rfl h11 ?_
    refine WP.aload_n dX10_findHangs_37 rfl rfl ?_
    refine WP.getR (j := 12) dX10_findHangs_38 rfl rfl in_X10 (by decide) wd_704 rfl ?_
    refine WP.iload_n dX10_findHangs_41 rfl rfl ?_
    refine WP.aload_n dX10_findHangs_42 rfl rfl ?_
    refine WP.getR (j := 11) dX10_findHangs_43 rfl rfl in_X10 (by decide) wd_703 rfl ?_
    refine WP.iload_n dX10_findHangs_46 rfl rfl ?_
    obtain ⟨v12, h13, h⟩ := Option.bind_eq_some_iff.mp h
    refine WP.ialdQ dX10_findHangs_47 rfl h13 ?_
    obtain ⟨M14, h15, h⟩ := Option.bind_eq_some_iff.mp h
    refine WP.iastQ dX10_findHangs_48 rfl h15 ?_
    refine WP.iinc (v := (q.1 + 1)) dX10_findHangs_49 rfl rfl (by decide) rfl rfl ?_
    refine WP.goto (tgt := 2) dX10_findHangs_52 (by decide) ?_
    refine WP.fgt [true, true, false, false] rfl ?_
    exact hK2 (q.1 + 1) M14 _ h
theorem uX10_findHangs_2 {l : Launch} {G : va_G} {tc : Nat → ClassId} {D : Nat → Nat} {N : Nat} (nn : Nat) : ∀ (z0 : Int32) (z1 : Mm) (R : Mm), lp (BX10_findHangs_2 N) nn (z0, z1) = some R → WP l G tc D lay (fun _ => True) RX10 cX10_findHangs 4 rX10_findHangs (.code yX10_findHangs cX10_findHangs 4 none) 2 [some (.ref 69), some (.int z0), none, none] [] z1 (RetQ cX10_findHangs none (RQV R)) := fun z0 z1 R hh => tX10_findHangs_2  nn (z0, z1) R hh
set_option maxRecDepth 20000 in
theorem TX10_findHangs {l : Launch} {G : va_G} {tc : Nat → ClassId} {D : Nat → Nat} {N : Nat} {M : Mm} {R : Mm} (h : FX10_findHangs N M = some R) : WP l G tc D lay (fun _ => True) yX10_findHangs.cls cX10_findHangs 4 rX10_findHangs (.code yX10_findHangs cX10_findHangs 4 none) 0 (entL 4 [.ref 69]) [] M (RetQ cX10_findHangs none (RQV R)) := by
  show WP l G tc D lay (fun _ => True) RX10 cX10_findHangs 4 rX10_findHangs (.code yX10_findHangs cX10_findHangs 4 none) 0 [some (.ref 69), none, none, none] [] M (RetQ cX10_findHangs none (RQV R))
  unfold FX10_findHangs at h
  refine WP.iconst (v := 0) dX10_findHangs_0 (by decide) ?_
  refine WP.istore_n dX10_findHangs_1 rfl (by decide) rfl rfl ?_
  refine WP.fgt [true, true, false, false] rfl ?_
  exact uX10_findHangs_2  N 0 M _ h
/-! X10_arrange -/
def rX10_arrange : Room := { frames := 5, cells := 0, slots := 0, locals := 113 }
def BX10_arrange_29 (N : Nat) (K21 : Int32 × Int32 × Mm → Option Mm) (K29 : Int32 × Int32 × Int32 × Mm → Option Mm) (q : Int32 × Int32 × Int32 × Mm) : Option Mm :=
  (if (q.2.2.2.1 69 0) ≤ q.2.2.1 then K21 (q.1, (q.2.1 + 1), q.2.2.2) else (rdI q.2.2.2 79 12 q.2.2.1).bind fun v2 => (FX10_count N v2 q.2.2.2).bind fun r5 => (if r5 = q.2.1 then (wrI q.2.2.2 81 12 q.1 q.2.2.1).bind fun M7 => K29 ((q.1 + 1), q.2.1, (q.2.2.1 + 1), M7) else K29 (q.1, q.2.1, (q.2.2.1 + 1), q.2.2.2)))
def BX10_arrange_21 (N : Nat) (K21 : Int32 × Int32 × Mm → Option Mm) (q : Int32 × Int32 × Mm) : Option Mm :=
  (if 12 ≤ q.2.1 then some q.2.2 else lp (BX10_arrange_29 N K21) N (q.1, q.2.1, 0, q.2.2))
def FX10_arrange (N : Nat) (M : Mm) : Option Mm :=
  (if (M.1 69 10) = 0 then (wrF M 69 10 1).bind fun M2 => (FX10_findHangs N M2).bind fun M5 => lp (BX10_arrange_21 N) N (0, 0, M5) else some M)
theorem eBX10_arrange_29 (N : Nat) (K21 : Int32 × Int32 × Mm → Option Mm) (K29 : Int32 × Int32 × Int32 × Mm → Option Mm) (q : Int32 × Int32 × Int32 × Mm) : BX10_arrange_29 N K21 K29 q = (if (q.2.2.2.1 69 0) ≤ q.2.2.1 then K21 (q.1, (q.2.1 + 1), q.2.2.2) else (rdI q.2.2.2 79 12 q.2.2.1).bind fun v2 => (FX10_count N v2 q.2.2.2).bind fun r5 => (if r5 = q.2.1 then (wrI q.2.2.2 81 12 q.1 q.2.2.1).bind fun M7 => K29 ((q.1 + 1), q.2.1, (q.2.2.1 + 1), M7) else K29 (q.1, q.2.1, (q.2.2.1 + 1), q.2.2.2))) := rfl
theorem eBX10_arrange_21 (N : Nat) (K21 : Int32 × Int32 × Mm → Option Mm) (q : Int32 × Int32 × Mm) : BX10_arrange_21 N K21 q = (if 12 ≤ q.2.1 then some q.2.2 else lp (BX10_arrange_29 N K21) N (q.1, q.2.1, 0, q.2.2)) := rfl
theorem eFX10_arrange (N : Nat) (M : Mm) : FX10_arrange N M = (if (M.1 69 10) = 0 then (wrF M 69 10 1).bind fun M2 => (FX10_findHangs N M2).bind fun M5 => lp (BX10_arrange_21 N) N (0, 0, M5) else some M) := rfl
set_option maxRecDepth 20000 in
theorem tX10_arrange_29 {l : Launch} {G : va_G} {tc : Nat → ClassId} {D : Nat → Nat} {N : Nat} {K21 : Int32 × Int32 × Mm → Option Mm} (hK21 : ∀ (z0 : Int32) (z1 : Int32) (z2 : Mm) (R : Mm), K21 (z0, z1, z2) = some R → WP l G tc D lay (fun _ => True) RX10 cX10_arrange 4 rX10_arrange (.code yX10_arrange cX10_arrange 4 none) 21 [some (.ref 69), some (.int z0), some (.int z1), none] [] z2 (RetQ cX10_arrange none (RQV R))) : ∀ (nn : Nat) (q : Int32 × Int32 × Int32 × Mm) (R : Mm), lp (BX10_arrange_29 N K21) nn q = some R → WP l G tc D lay (fun _ => True) RX10 cX10_arrange 4 rX10_arrange (.code yX10_arrange cX10_arrange 4 none) 29 [some (.ref 69), some (.int q.1), some (.int q.2.1), some (.int q.2.2.1)] [] q.2.2.2 (RetQ cX10_arrange none (RQV R)) := by
  refine lp_ind (fun K29 hK29q q R h => ?_)
  have hK29 : ∀ (z0 : Int32) (z1 : Int32) (z2 : Int32) (z3 : Mm) (R : Mm), K29 (z0, z1, z2, z3) = some R → WP l G tc D lay (fun _ => True) RX10 cX10_arrange 4 rX10_arrange (.code yX10_arrange cX10_arrange 4 none) 29 [some (.ref 69), some (.int z0), some (.int z1), some (.int z2)] [] z3 (RetQ cX10_arrange none (RQV R)) := fun z0 z1 z2 z3 R hh => hK29q (z0, z1, z2, z3) R hh
  unfold BX10_arrange_29 at h
  refine WP.iload_n dX10_arrange_29 rfl rfl ?_
  refine WP.aload_n dX10_arrange_30 rfl rfl ?_
  refine WP.getI (j := 0) dX10_arrange_31 rfl rfl in_X10 (by decide) wd_692 rfl ?_
  refine WP.icmp_ge (tgt := 66) dX10_arrange_34 (by decide) (fun c1 => ?_) (fun c1 => ?_)
  · rw [if_pos c1] at h
    refine WP.iinc (v := (q.2.1 + 1)) dX10_arrange_66 rfl rfl (by decide) rfl rfl ?_
    refine WP.goto (tgt := 21) dX10_arrange_69 (by decide) ?_
    refine WP.fgt [true, true, true, false] rfl ?_
    exact hK21 q.1 (q.2.1 + 1) q.2.2.2 _ h
  · rw [if_neg c1] at h
    refine WP.aload_n dX10_arrange_37 rfl rfl ?_
    refine WP.getR (j := 12) dX10_arrange_38 rfl rfl in_X10 (by decide) wd_704 rfl ?_
    refine WP.iload_n dX10_arrange_41 rfl rfl ?_
    obtain ⟨v2, h3, h⟩ := Option.bind_eq_some_iff.mp h
    refine WP.ialdQ dX10_arrange_42 rfl h3 ?_
    obtain ⟨r5, h4, h⟩ := Option.bind_eq_some_iff.mp h
    refine WP.callSI [.int v2] dX10_arrange_43 lk_X10_136 rfl (Nat.le_of_ble_eq_true rfl) (by decide) (Nat.le_of_ble_eq_true rfl) rfl (TX10_count h4) ?_
    refine WP.iload_n dX10_arrange_46 rfl rfl ?_
    refine WP.icmp_ne (tgt := 60) dX10_arrange_47 (by decide) (fun c6 => ?_) (fun c6 => ?_)
    · rw [if_neg c6] at h
      refine WP.iinc (v := (q.2.2.1 + 1)) dX10_arrange_60 rfl rfl (by decide) rfl rfl ?_
      refine WP.goto (tgt := 29) dX10_arrange_63 (by decide) ?_
      refine WP.fgt [true, true, true, true] rfl ?_
      exact hK29 q.1 q.2.1 (q.2.2.1 + 1) q.2.2.2 _ h
    · rw [if_pos c6] at h
      refine WP.aload_n dX10_arrange_50 rfl rfl ?_
      refine WP.getR (j := 14) dX10_arrange_51 rfl rfl in_X10 (by decide) wd_706 rfl ?_
      refine WP.iload_n dX10_arrange_54 rfl rfl ?_
      refine WP.iload_n dX10_arrange_55 rfl rfl ?_
      obtain ⟨M7, h8, h⟩ := Option.bind_eq_some_iff.mp h
      refine WP.iastQ dX10_arrange_56 rfl h8 ?_
      refine WP.iinc (v := (q.1 + 1)) dX10_arrange_57 rfl rfl (by decide) rfl rfl ?_
      refine WP.iinc (v := (q.2.2.1 + 1)) dX10_arrange_60 rfl rfl (by decide) rfl rfl ?_
      refine WP.goto (tgt := 29) dX10_arrange_63 (by decide) ?_
      refine WP.fgt [true, true, true, true] rfl ?_
      exact hK29 (q.1 + 1) q.2.1 (q.2.2.1 + 1) M7 _ h
theorem uX10_arrange_29 {l : Launch} {G : va_G} {tc : Nat → ClassId} {D : Nat → Nat} {N : Nat} {K21 : Int32 × Int32 × Mm → Option Mm} (hK21 : ∀ (z0 : Int32) (z1 : Int32) (z2 : Mm) (R : Mm), K21 (z0, z1, z2) = some R → WP l G tc D lay (fun _ => True) RX10 cX10_arrange 4 rX10_arrange (.code yX10_arrange cX10_arrange 4 none) 21 [some (.ref 69), some (.int z0), some (.int z1), none] [] z2 (RetQ cX10_arrange none (RQV R))) (nn : Nat) : ∀ (z0 : Int32) (z1 : Int32) (z2 : Int32) (z3 : Mm) (R : Mm), lp (BX10_arrange_29 N K21) nn (z0, z1, z2, z3) = some R → WP l G tc D lay (fun _ => True) RX10 cX10_arrange 4 rX10_arrange (.code yX10_arrange cX10_arrange 4 none) 29 [some (.ref 69), some (.int z0), some (.int z1), some (.int z2)] [] z3 (RetQ cX10_arrange none (RQV R)) := fun z0 z1 z2 z3 R hh => tX10_arrange_29 hK21 nn (z0, z1, z2, z3) R hh
set_option maxRecDepth 20000 in
theorem tX10_arrange_21 {l : Launch} {G : va_G} {tc : Nat → ClassId} {D : Nat → Nat} {N : Nat} : ∀ (nn : Nat) (q : Int32 × Int32 × Mm) (R : Mm), lp (BX10_arrange_21 N) nn q = some R → WP l G tc D lay (fun _ => True) RX10 cX10_arrange 4 rX10_arrange (.code yX10_arrange cX10_arrange 4 none) 21 [some (.ref 69), some (.int q.1), some (.int q.2.1), none] [] q.2.2 (RetQ cX10_arrange none (RQV R)) := by
  refine lp_ind (fun K21 hK21q q R h => ?_)
  have hK21 : ∀ (z0 : Int32) (z1 : Int32) (z2 : Mm) (R : Mm), K21 (z0, z1, z2) = some R → WP l G tc D lay (fun _ => True) RX10 cX10_arrange 4 rX10_arrange (.code yX10_arrange cX10_arrange 4 none) 21 [some (.ref 69), some (.int z0), some (.int z1), none] [] z2 (RetQ cX10_arrange none (RQV R)) := fun z0 z1 z2 R hh => hK21q (z0, z1, z2) R hh
  unfold BX10_arrange_21 at h
  refine WP.iload_n dX10_arrange_21 rfl rfl ?_
  refine WP.bipush (v := 12) dX10_arrange_22 (by decide) ?_
  refine WP.icmp_ge (tgt := 72) dX10_arrange_24 (by decide) (fun c1 => ?_) (fun c1 => ?_)
  · rw [if_pos c1] at h
    cases h
    exact WP.vret dX10_arrange_72 ⟨rfl, rfl⟩
  · rw [if_neg c1] at h
    refine WP.iconst (v := 0) dX10_arrange_27 (by decide) ?_
    refine WP.istore_n dX10_arrange_28 rfl (by decide) rfl rfl ?_
    refine WP.fgt [true, true, true, true] rfl ?_
    exact uX10_arrange_29 hK21 N q.1 q.2.1 0 q.2.2 _ h
theorem uX10_arrange_21 {l : Launch} {G : va_G} {tc : Nat → ClassId} {D : Nat → Nat} {N : Nat} (nn : Nat) : ∀ (z0 : Int32) (z1 : Int32) (z2 : Mm) (R : Mm), lp (BX10_arrange_21 N) nn (z0, z1, z2) = some R → WP l G tc D lay (fun _ => True) RX10 cX10_arrange 4 rX10_arrange (.code yX10_arrange cX10_arrange 4 none) 21 [some (.ref 69), some (.int z0), some (.int z1), none] [] z2 (RetQ cX10_arrange none (RQV R)) := fun z0 z1 z2 R hh => tX10_arrange_21  nn (z0, z1, z2) R hh
set_option maxRecDepth 20000 in
theorem TX10_arrange {l : Launch} {G : va_G} {tc : Nat → ClassId} {D : Nat → Nat} {N : Nat} {M : Mm} {R : Mm} (h : FX10_arrange N M = some R) : WP l G tc D lay (fun _ => True) yX10_arrange.cls cX10_arrange 4 rX10_arrange (.code yX10_arrange cX10_arrange 4 none) 0 (entL 4 [.ref 69]) [] M (RetQ cX10_arrange none (RQV R)) := by
  show WP l G tc D lay (fun _ => True) RX10 cX10_arrange 4 rX10_arrange (.code yX10_arrange cX10_arrange 4 none) 0 [some (.ref 69), none, none, none] [] M (RetQ cX10_arrange none (RQV R))
  unfold FX10_arrange at h
  refine WP.aload_n dX10_arrange_0 rfl rfl ?_
  refine WP.getI (j := 10) dX10_arrange_1 rfl rfl in_X10 (by decide) wd_702 rfl ?_
  refine WP.if_eq (tgt := 8) dX10_arrange_4 (by decide) (fun c1 => ?_) (fun c1 => ?_)
  · rw [if_pos c1] at h
    refine WP.aload_n dX10_arrange_8 rfl rfl ?_
    refine WP.iconst (v := 1) dX10_arrange_9 (by decide) ?_
    obtain ⟨M2, h3, h⟩ := Option.bind_eq_some_iff.mp h
    refine WP.putF (j := 10) (ty := .boolean) dX10_arrange_10 rfl rfl in_X10 tyX10_ok nmX10 (by decide) wd_702 rfl (by decide +kernel) (by decide) (by decide) rfl h3 ?_
    refine WP.aload_n dX10_arrange_13 rfl rfl ?_
    obtain ⟨M5, h4, h⟩ := Option.bind_eq_some_iff.mp h
    refine WP.callVV [] dX10_arrange_14 lk_X10_133 rfl rfl rfl (Nat.le_of_ble_eq_true rfl) (by decide) (Nat.le_of_ble_eq_true rfl) rfl (TX10_findHangs h4) ?_
    refine WP.iconst (v := 0) dX10_arrange_17 (by decide) ?_
    refine WP.istore_n dX10_arrange_18 rfl (by decide) rfl rfl ?_
    refine WP.iconst (v := 0) dX10_arrange_19 (by decide) ?_
    refine WP.istore_n dX10_arrange_20 rfl (by decide) rfl rfl ?_
    refine WP.fgt [true, true, true, false] rfl ?_
    exact uX10_arrange_21  N 0 0 M5 _ h
  · rw [if_neg c1] at h
    cases h
    exact WP.vret dX10_arrange_7 ⟨rfl, rfl⟩
/-! X10_comesTo -/
def rX10_comesTo : Room := { frames := 0, cells := 0, slots := 0, locals := 0 }
def BX10_comesTo_55 (N : Nat) (K8 : Int32 × Int32 × Int32 × Int32 → Option Int32) (K18 : Int32 × Int32 × Int32 × Int32 × Int32 → Option Int32) (a2 : Int32) (a3 : Int32) (a5 : Int32) (a6 : Int32) (t0 : Int32) (t1 : Int32) (M : Mm) : Option Int32 :=
  (if (((t0 ||| t1) >>> (a6 &&& 31)) &&& 1) = 1 then (rdI M 78 12 a6).bind fun v2 => (if ((v2 >>> (a2 &&& 31)) &&& 1) = 1 then some 1 else K18 (a2, a3, (t0 ||| t1), a5, (a6 + 1))) else K18 (a2, a3, (t0 ||| t1), a5, (a6 + 1)))
def BX10_comesTo_18 (N : Nat) (M : Mm) (K8 : Int32 × Int32 × Int32 × Int32 → Option Int32) (K18 : Int32 × Int32 × Int32 × Int32 × Int32 → Option Int32) (q : Int32 × Int32 × Int32 × Int32 × Int32) : Option Int32 :=
  (if (M.1 69 0) ≤ q.2.2.2.2 then K8 (q.1, q.2.1, q.2.2.1, (q.2.2.2.1 + 1)) else (if ((q.2.2.1 >>> (q.2.2.2.2 &&& 31)) &&& 1) = 1 then (rdI M 78 12 q.2.2.2.2).bind fun v3 => BX10_comesTo_55 N K8 K18 q.1 q.2.1 q.2.2.2.1 q.2.2.2.2 q.2.2.1 (v3 &&& (q.2.1 ^^^ (-1))) M else BX10_comesTo_55 N K8 K18 q.1 q.2.1 q.2.2.2.1 q.2.2.2.2 q.2.2.1 0 M))
def BX10_comesTo_8 (N : Nat) (M : Mm) (K8 : Int32 × Int32 × Int32 × Int32 → Option Int32) (q : Int32 × Int32 × Int32 × Int32) : Option Int32 :=
  (if 12 ≤ q.2.2.2 then some 0 else lp (BX10_comesTo_18 N M K8) N (q.1, q.2.1, q.2.2.1, q.2.2.2, 0))
def FX10_comesTo (N : Nat) (x1 : Int32) (x2 : Int32) (x3 : Int32) (M : Mm) : Option Int32 :=
  lp (BX10_comesTo_8 N M) N (x2, x3, ((1 : Int32) <<< (x1 &&& 31)), 0)
theorem eBX10_comesTo_55 (N : Nat) (K8 : Int32 × Int32 × Int32 × Int32 → Option Int32) (K18 : Int32 × Int32 × Int32 × Int32 × Int32 → Option Int32) (a2 : Int32) (a3 : Int32) (a5 : Int32) (a6 : Int32) (t0 : Int32) (t1 : Int32) (M : Mm) : BX10_comesTo_55 N K8 K18 a2 a3 a5 a6 t0 t1 M = (if (((t0 ||| t1) >>> (a6 &&& 31)) &&& 1) = 1 then (rdI M 78 12 a6).bind fun v2 => (if ((v2 >>> (a2 &&& 31)) &&& 1) = 1 then some 1 else K18 (a2, a3, (t0 ||| t1), a5, (a6 + 1))) else K18 (a2, a3, (t0 ||| t1), a5, (a6 + 1))) := rfl
theorem eBX10_comesTo_18 (N : Nat) (M : Mm) (K8 : Int32 × Int32 × Int32 × Int32 → Option Int32) (K18 : Int32 × Int32 × Int32 × Int32 × Int32 → Option Int32) (q : Int32 × Int32 × Int32 × Int32 × Int32) : BX10_comesTo_18 N M K8 K18 q = (if (M.1 69 0) ≤ q.2.2.2.2 then K8 (q.1, q.2.1, q.2.2.1, (q.2.2.2.1 + 1)) else (if ((q.2.2.1 >>> (q.2.2.2.2 &&& 31)) &&& 1) = 1 then (rdI M 78 12 q.2.2.2.2).bind fun v3 => BX10_comesTo_55 N K8 K18 q.1 q.2.1 q.2.2.2.1 q.2.2.2.2 q.2.2.1 (v3 &&& (q.2.1 ^^^ (-1))) M else BX10_comesTo_55 N K8 K18 q.1 q.2.1 q.2.2.2.1 q.2.2.2.2 q.2.2.1 0 M)) := rfl
theorem eBX10_comesTo_8 (N : Nat) (M : Mm) (K8 : Int32 × Int32 × Int32 × Int32 → Option Int32) (q : Int32 × Int32 × Int32 × Int32) : BX10_comesTo_8 N M K8 q = (if 12 ≤ q.2.2.2 then some 0 else lp (BX10_comesTo_18 N M K8) N (q.1, q.2.1, q.2.2.1, q.2.2.2, 0)) := rfl
theorem eFX10_comesTo (N : Nat) (x1 : Int32) (x2 : Int32) (x3 : Int32) (M : Mm) : FX10_comesTo N x1 x2 x3 M = lp (BX10_comesTo_8 N M) N (x2, x3, ((1 : Int32) <<< (x1 &&& 31)), 0) := rfl
set_option maxRecDepth 20000 in
theorem tX10_comesTo_55 {l : Launch} {G : va_G} {tc : Nat → ClassId} {D : Nat → Nat} {N : Nat} {K8 : Int32 × Int32 × Int32 × Int32 → Option Int32} {K18 : Int32 × Int32 × Int32 × Int32 × Int32 → Option Int32} {a2 : Int32} {a3 : Int32} {a5 : Int32} {a6 : Int32} {t0 : Int32} {t1 : Int32} {M : Mm} {R : Int32} (hK8 : ∀ (z0 : Int32) (z1 : Int32) (z2 : Int32) (z3 : Int32) (R : Int32), K8 (z0, z1, z2, z3) = some R → WP l G tc D lay (fun _ => True) RX10 cX10_comesTo 7 rX10_comesTo (.code yX10_comesTo cX10_comesTo 7 (some .boolean)) 8 [some (.ref 69), none, some (.int z0), some (.int z1), some (.int z2), some (.int z3), none] [] M (RetQ cX10_comesTo (some .boolean) (RQI R M))) (hK18 : ∀ (z0 : Int32) (z1 : Int32) (z2 : Int32) (z3 : Int32) (z4 : Int32) (R : Int32), K18 (z0, z1, z2, z3, z4) = some R → WP l G tc D lay (fun _ => True) RX10 cX10_comesTo 7 rX10_comesTo (.code yX10_comesTo cX10_comesTo 7 (some .boolean)) 18 [some (.ref 69), none, some (.int z0), some (.int z1), some (.int z2), some (.int z3), some (.int z4)] [] M (RetQ cX10_comesTo (some .boolean) (RQI R M))) (h : BX10_comesTo_55 N K8 K18 a2 a3 a5 a6 t0 t1 M = some R) : WP l G tc D lay (fun _ => True) RX10 cX10_comesTo 7 rX10_comesTo (.code yX10_comesTo cX10_comesTo 7 (some .boolean)) 55 [some (.ref 69), none, some (.int a2), some (.int a3), none, some (.int a5), some (.int a6)] [.int t1, .int t0] M (RetQ cX10_comesTo (some .boolean) (RQI R M)) := by
  unfold BX10_comesTo_55 at h
  refine WP.ior dX10_comesTo_55 ?_
  refine WP.istore dX10_comesTo_56 (by decide) rfl rfl ?_
  refine WP.iload dX10_comesTo_58 rfl ?_
  refine WP.iload dX10_comesTo_60 rfl ?_
  refine WP.ishr dX10_comesTo_62 ?_
  refine WP.iconst (v := 1) dX10_comesTo_63 (by decide) ?_
  refine WP.iand dX10_comesTo_64 ?_
  refine WP.iconst (v := 1) dX10_comesTo_65 (by decide) ?_
  refine WP.icmp_ne (tgt := 86) dX10_comesTo_66 (by decide) (fun c1 => ?_) (fun c1 => ?_)
  · rw [if_neg c1] at h
    refine WP.iinc (v := (a6 + 1)) dX10_comesTo_86 rfl rfl (by decide) rfl rfl ?_
    refine WP.goto (tgt := 18) dX10_comesTo_89 (by decide) ?_
    refine WP.fgt [true, false, true, true, true, true, true] rfl ?_
    exact hK18 a2 a3 (t0 ||| t1) a5 (a6 + 1) _ h
  · rw [if_pos c1] at h
    refine WP.aload_n dX10_comesTo_69 rfl rfl ?_
    refine WP.getR (j := 11) dX10_comesTo_70 rfl rfl in_X10 (by decide) wd_703 rfl ?_
    refine WP.iload dX10_comesTo_73 rfl ?_
    obtain ⟨v2, h3, h⟩ := Option.bind_eq_some_iff.mp h
    refine WP.ialdQ dX10_comesTo_75 rfl h3 ?_
    refine WP.iload_n dX10_comesTo_76 rfl rfl ?_
    refine WP.ishr dX10_comesTo_77 ?_
    refine WP.iconst (v := 1) dX10_comesTo_78 (by decide) ?_
    refine WP.iand dX10_comesTo_79 ?_
    refine WP.iconst (v := 1) dX10_comesTo_80 (by decide) ?_
    refine WP.icmp_ne (tgt := 86) dX10_comesTo_81 (by decide) (fun c4 => ?_) (fun c4 => ?_)
    · rw [if_neg c4] at h
      refine WP.iinc (v := (a6 + 1)) dX10_comesTo_86 rfl rfl (by decide) rfl rfl ?_
      refine WP.goto (tgt := 18) dX10_comesTo_89 (by decide) ?_
      refine WP.fgt [true, false, true, true, true, true, true] rfl ?_
      exact hK18 a2 a3 (t0 ||| t1) a5 (a6 + 1) _ h
    · rw [if_pos c4] at h
      refine WP.iconst (v := 1) dX10_comesTo_84 (by decide) ?_
      cases h
      exact WP.zret dX10_comesTo_85 (by decide) ⟨rfl, rfl⟩
set_option maxRecDepth 20000 in
theorem tX10_comesTo_18 {l : Launch} {G : va_G} {tc : Nat → ClassId} {D : Nat → Nat} {N : Nat} {M : Mm} {K8 : Int32 × Int32 × Int32 × Int32 → Option Int32} (hK8 : ∀ (z0 : Int32) (z1 : Int32) (z2 : Int32) (z3 : Int32) (R : Int32), K8 (z0, z1, z2, z3) = some R → WP l G tc D lay (fun _ => True) RX10 cX10_comesTo 7 rX10_comesTo (.code yX10_comesTo cX10_comesTo 7 (some .boolean)) 8 [some (.ref 69), none, some (.int z0), some (.int z1), some (.int z2), some (.int z3), none] [] M (RetQ cX10_comesTo (some .boolean) (RQI R M))) : ∀ (nn : Nat) (q : Int32 × Int32 × Int32 × Int32 × Int32) (R : Int32), lp (BX10_comesTo_18 N M K8) nn q = some R → WP l G tc D lay (fun _ => True) RX10 cX10_comesTo 7 rX10_comesTo (.code yX10_comesTo cX10_comesTo 7 (some .boolean)) 18 [some (.ref 69), none, some (.int q.1), some (.int q.2.1), some (.int q.2.2.1), some (.int q.2.2.2.1), some (.int q.2.2.2.2)] [] M (RetQ cX10_comesTo (some .boolean) (RQI R M)) := by
  refine lp_ind (fun K18 hK18q q R h => ?_)
  have hK18 : ∀ (z0 : Int32) (z1 : Int32) (z2 : Int32) (z3 : Int32) (z4 : Int32) (R : Int32), K18 (z0, z1, z2, z3, z4) = some R → WP l G tc D lay (fun _ => True) RX10 cX10_comesTo 7 rX10_comesTo (.code yX10_comesTo cX10_comesTo 7 (some .boolean)) 18 [some (.ref 69), none, some (.int z0), some (.int z1), some (.int z2), some (.int z3), some (.int z4)] [] M (RetQ cX10_comesTo (some .boolean) (RQI R M)) := fun z0 z1 z2 z3 z4 R hh => hK18q (z0, z1, z2, z3, z4) R hh
  unfold BX10_comesTo_18 at h
  refine WP.iload dX10_comesTo_18 rfl ?_
  refine WP.aload_n dX10_comesTo_20 rfl rfl ?_
  refine WP.getI (j := 0) dX10_comesTo_21 rfl rfl in_X10 (by decide) wd_692 rfl ?_
  refine WP.icmp_ge (tgt := 92) dX10_comesTo_24 (by decide) (fun c1 => ?_) (fun c1 => ?_)
  · rw [if_pos c1] at h
    refine WP.iinc (v := (q.2.2.2.1 + 1)) dX10_comesTo_92 rfl rfl (by decide) rfl rfl ?_
    refine WP.goto (tgt := 8) dX10_comesTo_95 (by decide) ?_
    refine WP.fgt [true, false, true, true, true, true, false] rfl ?_
    exact hK8 q.1 q.2.1 q.2.2.1 (q.2.2.2.1 + 1) _ h
  · rw [if_neg c1] at h
    refine WP.iload dX10_comesTo_27 rfl ?_
    refine WP.iload dX10_comesTo_29 rfl ?_
    refine WP.iload dX10_comesTo_31 rfl ?_
    refine WP.ishr dX10_comesTo_33 ?_
    refine WP.iconst (v := 1) dX10_comesTo_34 (by decide) ?_
    refine WP.iand dX10_comesTo_35 ?_
    refine WP.iconst (v := 1) dX10_comesTo_36 (by decide) ?_
    refine WP.icmp_ne (tgt := 54) dX10_comesTo_37 (by decide) (fun c2 => ?_) (fun c2 => ?_)
    · rw [if_neg c2] at h
      refine WP.iconst (v := 0) dX10_comesTo_54 (by decide) ?_
      refine WP.fgt [true, false, true, true, false, true, true] rfl ?_
      exact tX10_comesTo_55 hK8 hK18 h
    · rw [if_pos c2] at h
      refine WP.aload_n dX10_comesTo_40 rfl rfl ?_
      refine WP.getR (j := 11) dX10_comesTo_41 rfl rfl in_X10 (by decide) wd_703 rfl ?_
      refine WP.iload dX10_comesTo_44 rfl ?_
      obtain ⟨v3, h4, h⟩ := Option.bind_eq_some_iff.mp h
      refine WP.ialdQ dX10_comesTo_46 rfl h4 ?_
      refine WP.iload_n dX10_comesTo_47 rfl rfl ?_
      refine WP.iconst (v := (-1)) dX10_comesTo_48 (by decide) ?_
      refine WP.ixor dX10_comesTo_49 ?_
      refine WP.iand dX10_comesTo_50 ?_
      refine WP.goto (tgt := 55) dX10_comesTo_51 (by decide) ?_
      refine WP.fgt [true, false, true, true, false, true, true] rfl ?_
      exact tX10_comesTo_55 hK8 hK18 h
theorem uX10_comesTo_18 {l : Launch} {G : va_G} {tc : Nat → ClassId} {D : Nat → Nat} {N : Nat} {M : Mm} {K8 : Int32 × Int32 × Int32 × Int32 → Option Int32} (hK8 : ∀ (z0 : Int32) (z1 : Int32) (z2 : Int32) (z3 : Int32) (R : Int32), K8 (z0, z1, z2, z3) = some R → WP l G tc D lay (fun _ => True) RX10 cX10_comesTo 7 rX10_comesTo (.code yX10_comesTo cX10_comesTo 7 (some .boolean)) 8 [some (.ref 69), none, some (.int z0), some (.int z1), some (.int z2), some (.int z3), none] [] M (RetQ cX10_comesTo (some .boolean) (RQI R M))) (nn : Nat) : ∀ (z0 : Int32) (z1 : Int32) (z2 : Int32) (z3 : Int32) (z4 : Int32) (R : Int32), lp (BX10_comesTo_18 N M K8) nn (z0, z1, z2, z3, z4) = some R → WP l G tc D lay (fun _ => True) RX10 cX10_comesTo 7 rX10_comesTo (.code yX10_comesTo cX10_comesTo 7 (some .boolean)) 18 [some (.ref 69), none, some (.int z0), some (.int z1), some (.int z2), some (.int z3), some (.int z4)] [] M (RetQ cX10_comesTo (some .boolean) (RQI R M)) := fun z0 z1 z2 z3 z4 R hh => tX10_comesTo_18 hK8 nn (z0, z1, z2, z3, z4) R hh
set_option maxRecDepth 20000 in
theorem tX10_comesTo_8 {l : Launch} {G : va_G} {tc : Nat → ClassId} {D : Nat → Nat} {N : Nat} {M : Mm} : ∀ (nn : Nat) (q : Int32 × Int32 × Int32 × Int32) (R : Int32), lp (BX10_comesTo_8 N M) nn q = some R → WP l G tc D lay (fun _ => True) RX10 cX10_comesTo 7 rX10_comesTo (.code yX10_comesTo cX10_comesTo 7 (some .boolean)) 8 [some (.ref 69), none, some (.int q.1), some (.int q.2.1), some (.int q.2.2.1), some (.int q.2.2.2), none] [] M (RetQ cX10_comesTo (some .boolean) (RQI R M)) := by
  refine lp_ind (fun K8 hK8q q R h => ?_)
  have hK8 : ∀ (z0 : Int32) (z1 : Int32) (z2 : Int32) (z3 : Int32) (R : Int32), K8 (z0, z1, z2, z3) = some R → WP l G tc D lay (fun _ => True) RX10 cX10_comesTo 7 rX10_comesTo (.code yX10_comesTo cX10_comesTo 7 (some .boolean)) 8 [some (.ref 69), none, some (.int z0), some (.int z1), some (.int z2), some (.int z3), none] [] M (RetQ cX10_comesTo (some .boolean) (RQI R M)) := fun z0 z1 z2 z3 R hh => hK8q (z0, z1, z2, z3) R hh
  unfold BX10_comesTo_8 at h
  refine WP.iload dX10_comesTo_8 rfl ?_
  refine WP.bipush (v := 12) dX10_comesTo_10 (by decide) ?_
  refine WP.icmp_ge (tgt := 98) dX10_comesTo_12 (by decide) (fun c1 => ?_) (fun c1 => ?_)
  · rw [if_pos c1] at h
    refine WP.iconst (v := 0) dX10_comesTo_98 (by decide) ?_
    cases h
    exact WP.zret dX10_comesTo_99 (by decide) ⟨rfl, rfl⟩
  · rw [if_neg c1] at h
    refine WP.iconst (v := 0) dX10_comesTo_15 (by decide) ?_
    refine WP.istore dX10_comesTo_16 (by decide) rfl rfl ?_
    refine WP.fgt [true, false, true, true, true, true, true] rfl ?_
    exact uX10_comesTo_18 hK8 N q.1 q.2.1 q.2.2.1 q.2.2.2 0 _ h
theorem uX10_comesTo_8 {l : Launch} {G : va_G} {tc : Nat → ClassId} {D : Nat → Nat} {N : Nat} {M : Mm} (nn : Nat) : ∀ (z0 : Int32) (z1 : Int32) (z2 : Int32) (z3 : Int32) (R : Int32), lp (BX10_comesTo_8 N M) nn (z0, z1, z2, z3) = some R → WP l G tc D lay (fun _ => True) RX10 cX10_comesTo 7 rX10_comesTo (.code yX10_comesTo cX10_comesTo 7 (some .boolean)) 8 [some (.ref 69), none, some (.int z0), some (.int z1), some (.int z2), some (.int z3), none] [] M (RetQ cX10_comesTo (some .boolean) (RQI R M)) := fun z0 z1 z2 z3 R hh => tX10_comesTo_8  nn (z0, z1, z2, z3) R hh
set_option maxRecDepth 20000 in
theorem TX10_comesTo {l : Launch} {G : va_G} {tc : Nat → ClassId} {D : Nat → Nat} {N : Nat} {x1 : Int32} {x2 : Int32} {x3 : Int32} {M : Mm} {R : Int32} (h : FX10_comesTo N x1 x2 x3 M = some R) : WP l G tc D lay (fun _ => True) yX10_comesTo.cls cX10_comesTo 7 rX10_comesTo (.code yX10_comesTo cX10_comesTo 7 (some .boolean)) 0 (entL 7 [.ref 69, .int x1, .int x2, .int x3]) [] M (RetQ cX10_comesTo (some .boolean) (RQI R M)) := by
  show WP l G tc D lay (fun _ => True) RX10 cX10_comesTo 7 rX10_comesTo (.code yX10_comesTo cX10_comesTo 7 (some .boolean)) 0 [some (.ref 69), some (.int x1), some (.int x2), some (.int x3), none, none, none] [] M (RetQ cX10_comesTo (some .boolean) (RQI R M))
  unfold FX10_comesTo at h
  refine WP.iconst (v := 1) dX10_comesTo_0 (by decide) ?_
  refine WP.iload_n dX10_comesTo_1 rfl rfl ?_
  refine WP.ishl dX10_comesTo_2 ?_
  refine WP.istore dX10_comesTo_3 (by decide) rfl rfl ?_
  refine WP.iconst (v := 0) dX10_comesTo_5 (by decide) ?_
  refine WP.istore dX10_comesTo_6 (by decide) rfl rfl ?_
  refine WP.fgt [true, false, true, true, true, true, false] rfl ?_
  exact uX10_comesTo_8  N x2 x3 ((1 : Int32) <<< (x1 &&& 31)) 0 _ h
/-! X10_findRing -/
def rX10_findRing : Room := { frames := 1, cells := 0, slots := 0, locals := 26 }
def BX10_findRing_34 (N : Nat) (K18 : Int32 × Int32 × Int32 × Mm → Option Mm) (K34 : Int32 × Int32 × Int32 × Int32 × Mm → Option Mm) (q : Int32 × Int32 × Int32 × Int32 × Mm) : Option Mm :=
  (rdI q.2.2.2.2 78 12 q.2.2.1).bind fun v1 => (if ((v1 >>> (q.2.2.2.1 &&& 31)) &&& 1) = 0 then K34 (q.1, q.2.1, q.2.2.1, (q.2.2.2.1 + 1), q.2.2.2.2) else (if ((q.2.1 >>> (q.2.2.2.1 &&& 31)) &&& 1) = 1 then K34 (q.1, q.2.1, q.2.2.1, (q.2.2.2.1 + 1), q.2.2.2.2) else (FX10_comesTo N q.2.2.2.1 q.1 q.2.1 q.2.2.2.2).bind fun r6 => (if r6 = 0 then K34 (q.1, q.2.1, q.2.2.1, (q.2.2.2.1 + 1), q.2.2.2.2) else (wrI q.2.2.2.2 82 12 (q.2.2.2.2.1 69 15) q.2.2.2.1).bind fun M8 => (wrF M8 69 15 ((M8.1 69 15) + 1)).bind fun M10 => K18 (q.1, (q.2.1 ||| ((1 : Int32) <<< (q.2.2.2.1 &&& 31))), q.2.2.2.1, M10))))
def BX10_findRing_18 (N : Nat) (K18 : Int32 × Int32 × Int32 × Mm → Option Mm) (q : Int32 × Int32 × Int32 × Mm) : Option Mm :=
  (rdI q.2.2.2 78 12 q.2.2.1).bind fun v1 => (if ((v1 >>> (q.1 &&& 31)) &&& 1) = 0 then lp (BX10_findRing_34 N K18) N (q.1, q.2.1, q.2.2.1, 0, q.2.2.2) else some q.2.2.2)
def FX10_findRing (N : Nat) (x1 : Int32) (M : Mm) : Option Mm :=
  (wrF M 69 15 1).bind fun M1 => (wrI M1 82 12 0 x1).bind fun M3 => lp (BX10_findRing_18 N) N (x1, ((1 : Int32) <<< (x1 &&& 31)), x1, M3)
theorem eBX10_findRing_34 (N : Nat) (K18 : Int32 × Int32 × Int32 × Mm → Option Mm) (K34 : Int32 × Int32 × Int32 × Int32 × Mm → Option Mm) (q : Int32 × Int32 × Int32 × Int32 × Mm) : BX10_findRing_34 N K18 K34 q = (rdI q.2.2.2.2 78 12 q.2.2.1).bind fun v1 => (if ((v1 >>> (q.2.2.2.1 &&& 31)) &&& 1) = 0 then K34 (q.1, q.2.1, q.2.2.1, (q.2.2.2.1 + 1), q.2.2.2.2) else (if ((q.2.1 >>> (q.2.2.2.1 &&& 31)) &&& 1) = 1 then K34 (q.1, q.2.1, q.2.2.1, (q.2.2.2.1 + 1), q.2.2.2.2) else (FX10_comesTo N q.2.2.2.1 q.1 q.2.1 q.2.2.2.2).bind fun r6 => (if r6 = 0 then K34 (q.1, q.2.1, q.2.2.1, (q.2.2.2.1 + 1), q.2.2.2.2) else (wrI q.2.2.2.2 82 12 (q.2.2.2.2.1 69 15) q.2.2.2.1).bind fun M8 => (wrF M8 69 15 ((M8.1 69 15) + 1)).bind fun M10 => K18 (q.1, (q.2.1 ||| ((1 : Int32) <<< (q.2.2.2.1 &&& 31))), q.2.2.2.1, M10)))) := rfl
theorem eBX10_findRing_18 (N : Nat) (K18 : Int32 × Int32 × Int32 × Mm → Option Mm) (q : Int32 × Int32 × Int32 × Mm) : BX10_findRing_18 N K18 q = (rdI q.2.2.2 78 12 q.2.2.1).bind fun v1 => (if ((v1 >>> (q.1 &&& 31)) &&& 1) = 0 then lp (BX10_findRing_34 N K18) N (q.1, q.2.1, q.2.2.1, 0, q.2.2.2) else some q.2.2.2) := rfl
theorem eFX10_findRing (N : Nat) (x1 : Int32) (M : Mm) : FX10_findRing N x1 M = (wrF M 69 15 1).bind fun M1 => (wrI M1 82 12 0 x1).bind fun M3 => lp (BX10_findRing_18 N) N (x1, ((1 : Int32) <<< (x1 &&& 31)), x1, M3) := rfl
set_option maxRecDepth 20000 in
theorem tX10_findRing_34 {l : Launch} {G : va_G} {tc : Nat → ClassId} {D : Nat → Nat} {N : Nat} {K18 : Int32 × Int32 × Int32 × Mm → Option Mm} (hK18 : ∀ (z0 : Int32) (z1 : Int32) (z2 : Int32) (z3 : Mm) (R : Mm), K18 (z0, z1, z2, z3) = some R → WP l G tc D lay (fun _ => True) RX10 cX10_findRing 5 rX10_findRing (.code yX10_findRing cX10_findRing 5 none) 18 [some (.ref 69), some (.int z0), some (.int z1), some (.int z2), none] [] z3 (RetQ cX10_findRing none (RQV R))) : ∀ (nn : Nat) (q : Int32 × Int32 × Int32 × Int32 × Mm) (R : Mm), lp (BX10_findRing_34 N K18) nn q = some R → WP l G tc D lay (fun _ => True) RX10 cX10_findRing 5 rX10_findRing (.code yX10_findRing cX10_findRing 5 none) 34 [some (.ref 69), some (.int q.1), some (.int q.2.1), some (.int q.2.2.1), some (.int q.2.2.2.1)] [] q.2.2.2.2 (RetQ cX10_findRing none (RQV R)) := by
  refine lp_ind (fun K34 hK34q q R h => ?_)
  have hK34 : ∀ (z0 : Int32) (z1 : Int32) (z2 : Int32) (z3 : Int32) (z4 : Mm) (R : Mm), K34 (z0, z1, z2, z3, z4) = some R → WP l G tc D lay (fun _ => True) RX10 cX10_findRing 5 rX10_findRing (.code yX10_findRing cX10_findRing 5 none) 34 [some (.ref 69), some (.int z0), some (.int z1), some (.int z2), some (.int z3)] [] z4 (RetQ cX10_findRing none (RQV R)) := fun z0 z1 z2 z3 z4 R hh => hK34q (z0, z1, z2, z3, z4) R hh
  unfold BX10_findRing_34 at h
  refine WP.aload_n dX10_findRing_34 rfl rfl ?_
  refine WP.getR (j := 11) dX10_findRing_35 rfl rfl in_X10 (by decide) wd_703 rfl ?_
  refine WP.iload_n dX10_findRing_38 rfl rfl ?_
  obtain ⟨v1, h2, h⟩ := Option.bind_eq_some_iff.mp h
  refine WP.ialdQ dX10_findRing_39 rfl h2 ?_
  refine WP.iload dX10_findRing_40 rfl ?_
  refine WP.ishr dX10_findRing_42 ?_
  refine WP.iconst (v := 1) dX10_findRing_43 (by decide) ?_
  refine WP.iand dX10_findRing_44 ?_
  refine WP.if_eq (tgt := 69) dX10_findRing_45 (by decide) (fun c3 => ?_) (fun c3 => ?_)
  · rw [if_pos c3] at h
    refine WP.iinc (v := (q.2.2.2.1 + 1)) dX10_findRing_69 rfl rfl (by decide) rfl rfl ?_
    refine WP.goto (tgt := 34) dX10_findRing_72 (by decide) ?_
    refine WP.fgt [true, true, true, true, true] rfl ?_
    exact hK34 q.1 q.2.1 q.2.2.1 (q.2.2.2.1 + 1) q.2.2.2.2 _ h
  · rw [if_neg c3] at h
    refine WP.iload_n dX10_findRing_48 rfl rfl ?_
    refine WP.iload dX10_findRing_49 rfl ?_
    refine WP.ishr dX10_findRing_51 ?_
    refine WP.iconst (v := 1) dX10_findRing_52 (by decide) ?_
    refine WP.iand dX10_findRing_53 ?_
    refine WP.iconst (v := 1) dX10_findRing_54 (by decide) ?_
    refine WP.icmp_eq (tgt := 69) dX10_findRing_55 (by decide) (fun c4 => ?_) (fun c4 => ?_)
    · rw [if_pos c4] at h
      refine WP.iinc (v := (q.2.2.2.1 + 1)) dX10_findRing_69 rfl rfl (by decide) rfl rfl ?_
      refine WP.goto (tgt := 34) dX10_findRing_72 (by decide) ?_
      refine WP.fgt [true, true, true, true, true] rfl ?_
      exact hK34 q.1 q.2.1 q.2.2.1 (q.2.2.2.1 + 1) q.2.2.2.2 _ h
    · rw [if_neg c4] at h
      refine WP.aload_n dX10_findRing_58 rfl rfl ?_
      refine WP.iload dX10_findRing_59 rfl ?_
      refine WP.iload_n dX10_findRing_61 rfl rfl ?_
      refine WP.iload_n dX10_findRing_62 rfl rfl ?_
      obtain ⟨r6, h5, h⟩ := Option.bind_eq_some_iff.mp h
      refine WP.callVI [.int q.2.2.2.1, .int q.1, .int q.2.1] dX10_findRing_63 lk_X10_142 rfl rfl rfl (Nat.le_of_ble_eq_true rfl) (by decide) (Nat.le_of_ble_eq_true rfl) rfl (TX10_comesTo h5) ?_
      refine WP.if_ne (tgt := 75) dX10_findRing_66 (by decide) (fun c7 => ?_) (fun c7 => ?_)
      · rw [if_neg c7] at h
        refine WP.aload_n dX10_findRing_75 rfl rfl ?_
        refine WP.getR (j := 16) dX10_findRing_76 rfl rfl in_X10 (by decide) wd_708 rfl ?_
        refine WP.aload_n dX10_findRing_79 rfl rfl ?_
        refine WP.getI (j := 15) dX10_findRing_80 rfl rfl in_X10 (by decide) wd_707 rfl ?_
        refine WP.iload dX10_findRing_83 rfl ?_
        obtain ⟨M8, h9, h⟩ := Option.bind_eq_some_iff.mp h
        refine WP.iastQ dX10_findRing_85 rfl h9 ?_
        refine WP.aload_n dX10_findRing_86 rfl rfl ?_
        refine WP.dup dX10_findRing_87 rfl ?_
        refine WP.getI (j := 15) dX10_findRing_88 rfl rfl in_X10 (by decide) wd_707 rfl ?_
        refine WP.iconst (v := 1) dX10_findRing_91 (by decide) ?_
        refine WP.iadd dX10_findRing_92 ?_
        obtain ⟨M10, h11, h⟩ := Option.bind_eq_some_iff.mp h
        refine WP.putF (j := 15) (ty := .int) dX10_findRing_93 rfl rfl in_X10 tyX10_ok nmX10 (by decide) wd_707 rfl (by decide +kernel) rfl rfl rfl h11 ?_
        refine WP.iload_n dX10_findRing_96 rfl rfl ?_
        refine WP.iconst (v := 1) dX10_findRing_97 (by decide) ?_
        refine WP.iload dX10_findRing_98 rfl ?_
        refine WP.ishl dX10_findRing_100 ?_
        refine WP.ior dX10_findRing_101 ?_
        refine WP.istore_n dX10_findRing_102 rfl (by decide) rfl rfl ?_
        refine WP.iload dX10_findRing_103 rfl ?_
        refine WP.istore_n dX10_findRing_105 rfl (by decide) rfl rfl ?_
        refine WP.goto (tgt := 18) dX10_findRing_106 (by decide) ?_
        refine WP.fgt [true, true, true, true, false] rfl ?_
        exact hK18 q.1 (q.2.1 ||| ((1 : Int32) <<< (q.2.2.2.1 &&& 31))) q.2.2.2.1 M10 _ h
      · rw [if_pos c7] at h
        refine WP.iinc (v := (q.2.2.2.1 + 1)) dX10_findRing_69 rfl rfl (by decide) rfl rfl ?_
        refine WP.goto (tgt := 34) dX10_findRing_72 (by decide) ?_
        refine WP.fgt [true, true, true, true, true] rfl ?_
        exact hK34 q.1 q.2.1 q.2.2.1 (q.2.2.2.1 + 1) q.2.2.2.2 _ h
theorem uX10_findRing_34 {l : Launch} {G : va_G} {tc : Nat → ClassId} {D : Nat → Nat} {N : Nat} {K18 : Int32 × Int32 × Int32 × Mm → Option Mm} (hK18 : ∀ (z0 : Int32) (z1 : Int32) (z2 : Int32) (z3 : Mm) (R : Mm), K18 (z0, z1, z2, z3) = some R → WP l G tc D lay (fun _ => True) RX10 cX10_findRing 5 rX10_findRing (.code yX10_findRing cX10_findRing 5 none) 18 [some (.ref 69), some (.int z0), some (.int z1), some (.int z2), none] [] z3 (RetQ cX10_findRing none (RQV R))) (nn : Nat) : ∀ (z0 : Int32) (z1 : Int32) (z2 : Int32) (z3 : Int32) (z4 : Mm) (R : Mm), lp (BX10_findRing_34 N K18) nn (z0, z1, z2, z3, z4) = some R → WP l G tc D lay (fun _ => True) RX10 cX10_findRing 5 rX10_findRing (.code yX10_findRing cX10_findRing 5 none) 34 [some (.ref 69), some (.int z0), some (.int z1), some (.int z2), some (.int z3)] [] z4 (RetQ cX10_findRing none (RQV R)) := fun z0 z1 z2 z3 z4 R hh => tX10_findRing_34 hK18 nn (z0, z1, z2, z3, z4) R hh
set_option maxRecDepth 20000 in
theorem tX10_findRing_18 {l : Launch} {G : va_G} {tc : Nat → ClassId} {D : Nat → Nat} {N : Nat} : ∀ (nn : Nat) (q : Int32 × Int32 × Int32 × Mm) (R : Mm), lp (BX10_findRing_18 N) nn q = some R → WP l G tc D lay (fun _ => True) RX10 cX10_findRing 5 rX10_findRing (.code yX10_findRing cX10_findRing 5 none) 18 [some (.ref 69), some (.int q.1), some (.int q.2.1), some (.int q.2.2.1), none] [] q.2.2.2 (RetQ cX10_findRing none (RQV R)) := by
  refine lp_ind (fun K18 hK18q q R h => ?_)
  have hK18 : ∀ (z0 : Int32) (z1 : Int32) (z2 : Int32) (z3 : Mm) (R : Mm), K18 (z0, z1, z2, z3) = some R → WP l G tc D lay (fun _ => True) RX10 cX10_findRing 5 rX10_findRing (.code yX10_findRing cX10_findRing 5 none) 18 [some (.ref 69), some (.int z0), some (.int z1), some (.int z2), none] [] z3 (RetQ cX10_findRing none (RQV R)) := fun z0 z1 z2 z3 R hh => hK18q (z0, z1, z2, z3) R hh
  unfold BX10_findRing_18 at h
  refine WP.aload_n dX10_findRing_18 rfl rfl ?_
  refine WP.getR (j := 11) dX10_findRing_19 rfl rfl in_X10 (by decide) wd_703 rfl ?_
  refine WP.iload_n dX10_findRing_22 rfl rfl ?_
  obtain ⟨v1, h2, h⟩ := Option.bind_eq_some_iff.mp h
  refine WP.ialdQ dX10_findRing_23 rfl h2 ?_
  refine WP.iload_n dX10_findRing_24 rfl rfl ?_
  refine WP.ishr dX10_findRing_25 ?_
  refine WP.iconst (v := 1) dX10_findRing_26 (by decide) ?_
  refine WP.iand dX10_findRing_27 ?_
  refine WP.if_ne (tgt := 109) dX10_findRing_28 (by decide) (fun c3 => ?_) (fun c3 => ?_)
  · rw [if_neg c3] at h
    cases h
    exact WP.vret dX10_findRing_109 ⟨rfl, rfl⟩
  · rw [if_pos c3] at h
    refine WP.iconst (v := 0) dX10_findRing_31 (by decide) ?_
    refine WP.istore dX10_findRing_32 (by decide) rfl rfl ?_
    refine WP.fgt [true, true, true, true, true] rfl ?_
    exact uX10_findRing_34 hK18 N q.1 q.2.1 q.2.2.1 0 q.2.2.2 _ h
theorem uX10_findRing_18 {l : Launch} {G : va_G} {tc : Nat → ClassId} {D : Nat → Nat} {N : Nat} (nn : Nat) : ∀ (z0 : Int32) (z1 : Int32) (z2 : Int32) (z3 : Mm) (R : Mm), lp (BX10_findRing_18 N) nn (z0, z1, z2, z3) = some R → WP l G tc D lay (fun _ => True) RX10 cX10_findRing 5 rX10_findRing (.code yX10_findRing cX10_findRing 5 none) 18 [some (.ref 69), some (.int z0), some (.int z1), some (.int z2), none] [] z3 (RetQ cX10_findRing none (RQV R)) := fun z0 z1 z2 z3 R hh => tX10_findRing_18  nn (z0, z1, z2, z3) R hh
set_option maxRecDepth 20000 in
theorem TX10_findRing {l : Launch} {G : va_G} {tc : Nat → ClassId} {D : Nat → Nat} {N : Nat} {x1 : Int32} {M : Mm} {R : Mm} (h : FX10_findRing N x1 M = some R) : WP l G tc D lay (fun _ => True) yX10_findRing.cls cX10_findRing 5 rX10_findRing (.code yX10_findRing cX10_findRing 5 none) 0 (entL 5 [.ref 69, .int x1]) [] M (RetQ cX10_findRing none (RQV R)) := by
  show WP l G tc D lay (fun _ => True) RX10 cX10_findRing 5 rX10_findRing (.code yX10_findRing cX10_findRing 5 none) 0 [some (.ref 69), some (.int x1), none, none, none] [] M (RetQ cX10_findRing none (RQV R))
  unfold FX10_findRing at h
  refine WP.aload_n dX10_findRing_0 rfl rfl ?_
  refine WP.iconst (v := 1) dX10_findRing_1 (by decide) ?_
  obtain ⟨M1, h2, h⟩ := Option.bind_eq_some_iff.mp h
  refine WP.putF (j := 15) (ty := .int) dX10_findRing_2 rfl rfl in_X10 tyX10_ok nmX10 (by decide) wd_707 rfl (by decide +kernel) rfl rfl rfl h2 ?_
  refine WP.aload_n dX10_findRing_5 rfl rfl ?_
  refine WP.getR (j := 16) dX10_findRing_6 rfl rfl in_X10 (by decide) wd_708 rfl ?_
  refine WP.iconst (v := 0) dX10_findRing_9 (by decide) ?_
  refine WP.iload_n dX10_findRing_10 rfl rfl ?_
  obtain ⟨M3, h4, h⟩ := Option.bind_eq_some_iff.mp h
  refine WP.iastQ dX10_findRing_11 rfl h4 ?_
  refine WP.iconst (v := 1) dX10_findRing_12 (by decide) ?_
  refine WP.iload_n dX10_findRing_13 rfl rfl ?_
  refine WP.ishl dX10_findRing_14 ?_
  refine WP.istore_n dX10_findRing_15 rfl (by decide) rfl rfl ?_
  refine WP.iload_n dX10_findRing_16 rfl rfl ?_
  refine WP.istore_n dX10_findRing_17 rfl (by decide) rfl rfl ?_
  refine WP.fgt [true, true, true, true, false] rfl ?_
  exact uX10_findRing_18  N x1 ((1 : Int32) <<< (x1 &&& 31)) x1 M3 _ h
/-! X10_rule -/
def rX10_rule : Room := { frames := 5, cells := 0, slots := 0, locals := 113 }
def BX10_rule_51 (N : Nat) (a1 : Int32) (a2 : Int32) (a3 : Int32) (M : Mm) : Option (Int32 × Mm) :=
  (rdI M 73 48 (((4 : Int32) * a1) + a2)).bind fun v1 => (wrI M 73 48 (((4 : Int32) * a1) + a2) a3).bind fun M3 => (FX10_findHangs N M3).bind fun M6 => (rdI M6 79 12 a1).bind fun v7 => (if ((v7 >>> (a1 &&& 31)) &&& 1) = 1 then (FX10_findRing N a1 M6).bind fun M13 => (wrI M13 73 48 (((4 : Int32) * a1) + a2) v1).bind fun M14 => (wrF M14 69 10 0).bind fun M16 => some ((-3), M16) else (wrF M6 69 10 0).bind fun M10 => some (1, M10))
def BX10_rule_24 (N : Nat) (a1 : Int32) (a2 : Int32) (a3 : Int32) (M : Mm) : Option (Int32 × Mm) :=
  (FX10_in a2 0 3 M).bind fun r2 => (if r2 = 0 then some ((-2), M) else (if a2 = 3 then (rdI M 72 12 a1).bind fun v5 => (if v5 = 1 then BX10_rule_51 N a1 a2 a3 M else some ((-2), M)) else BX10_rule_51 N a1 a2 a3 M))
def FX10_rule (N : Nat) (x1 : Int32) (x2 : Int32) (x3 : Int32) (M : Mm) : Option (Int32 × Mm) :=
  (FX10_noField x1 M).bind fun r2 => (if r2 = 0 then (if x3 = (-9) then BX10_rule_24 N x1 x2 x3 M else (FX10_noPart x3 M).bind fun r6 => (if r6 = 0 then BX10_rule_24 N x1 x2 x3 M else some ((-1), M))) else some ((-1), M))
theorem eBX10_rule_51 (N : Nat) (a1 : Int32) (a2 : Int32) (a3 : Int32) (M : Mm) : BX10_rule_51 N a1 a2 a3 M = (rdI M 73 48 (((4 : Int32) * a1) + a2)).bind fun v1 => (wrI M 73 48 (((4 : Int32) * a1) + a2) a3).bind fun M3 => (FX10_findHangs N M3).bind fun M6 => (rdI M6 79 12 a1).bind fun v7 => (if ((v7 >>> (a1 &&& 31)) &&& 1) = 1 then (FX10_findRing N a1 M6).bind fun M13 => (wrI M13 73 48 (((4 : Int32) * a1) + a2) v1).bind fun M14 => (wrF M14 69 10 0).bind fun M16 => some ((-3), M16) else (wrF M6 69 10 0).bind fun M10 => some (1, M10)) := rfl
theorem eBX10_rule_24 (N : Nat) (a1 : Int32) (a2 : Int32) (a3 : Int32) (M : Mm) : BX10_rule_24 N a1 a2 a3 M = (FX10_in a2 0 3 M).bind fun r2 => (if r2 = 0 then some ((-2), M) else (if a2 = 3 then (rdI M 72 12 a1).bind fun v5 => (if v5 = 1 then BX10_rule_51 N a1 a2 a3 M else some ((-2), M)) else BX10_rule_51 N a1 a2 a3 M)) := rfl
theorem eFX10_rule (N : Nat) (x1 : Int32) (x2 : Int32) (x3 : Int32) (M : Mm) : FX10_rule N x1 x2 x3 M = (FX10_noField x1 M).bind fun r2 => (if r2 = 0 then (if x3 = (-9) then BX10_rule_24 N x1 x2 x3 M else (FX10_noPart x3 M).bind fun r6 => (if r6 = 0 then BX10_rule_24 N x1 x2 x3 M else some ((-1), M))) else some ((-1), M)) := rfl
set_option maxRecDepth 20000 in
theorem tX10_rule_51 {l : Launch} {G : va_G} {tc : Nat → ClassId} {D : Nat → Nat} {N : Nat} {a1 : Int32} {a2 : Int32} {a3 : Int32} {M : Mm} {R : (Int32 × Mm)} (h : BX10_rule_51 N a1 a2 a3 M = some R) : WP l G tc D lay (fun _ => True) RX10 cX10_rule 5 rX10_rule (.code yX10_rule cX10_rule 5 (some .int)) 51 [some (.ref 69), some (.int a1), some (.int a2), some (.int a3), none] [] M (RetQ cX10_rule (some .int) (RQI R.1 R.2)) := by
  unfold BX10_rule_51 at h
  refine WP.aload_n dX10_rule_51 rfl rfl ?_
  refine WP.getR (j := 4) dX10_rule_52 rfl rfl in_X10 (by decide) wd_696 rfl ?_
  refine WP.iconst (v := 4) dX10_rule_55 (by decide) ?_
  refine WP.iload_n dX10_rule_56 rfl rfl ?_
  refine WP.imul dX10_rule_57 ?_
  refine WP.iload_n dX10_rule_58 rfl rfl ?_
  refine WP.iadd dX10_rule_59 ?_
  obtain ⟨v1, h2, h⟩ := Option.bind_eq_some_iff.mp h
  refine WP.ialdQ dX10_rule_60 rfl h2 ?_
  refine WP.istore dX10_rule_61 (by decide) rfl rfl ?_
  refine WP.aload_n dX10_rule_63 rfl rfl ?_
  refine WP.getR (j := 4) dX10_rule_64 rfl rfl in_X10 (by decide) wd_696 rfl ?_
  refine WP.iconst (v := 4) dX10_rule_67 (by decide) ?_
  refine WP.iload_n dX10_rule_68 rfl rfl ?_
  refine WP.imul dX10_rule_69 ?_
  refine WP.iload_n dX10_rule_70 rfl rfl ?_
  refine WP.iadd dX10_rule_71 ?_
  refine WP.iload_n dX10_rule_72 rfl rfl ?_
  obtain ⟨M3, h4, h⟩ := Option.bind_eq_some_iff.mp h
  refine WP.iastQ dX10_rule_73 rfl h4 ?_
  refine WP.aload_n dX10_rule_74 rfl rfl ?_
  obtain ⟨M6, h5, h⟩ := Option.bind_eq_some_iff.mp h
  refine WP.callVV [] dX10_rule_75 lk_X10_133 rfl rfl rfl (Nat.le_of_ble_eq_true rfl) (by decide) (Nat.le_of_ble_eq_true rfl) rfl (TX10_findHangs h5) ?_
  refine WP.aload_n dX10_rule_78 rfl rfl ?_
  refine WP.getR (j := 12) dX10_rule_79 rfl rfl in_X10 (by decide) wd_704 rfl ?_
  refine WP.iload_n dX10_rule_82 rfl rfl ?_
  obtain ⟨v7, h8, h⟩ := Option.bind_eq_some_iff.mp h
  refine WP.ialdQ dX10_rule_83 rfl h8 ?_
  refine WP.iload_n dX10_rule_84 rfl rfl ?_
  refine WP.ishr dX10_rule_85 ?_
  refine WP.iconst (v := 1) dX10_rule_86 (by decide) ?_
  refine WP.iand dX10_rule_87 ?_
  refine WP.iconst (v := 1) dX10_rule_88 (by decide) ?_
  refine WP.icmp_ne (tgt := 117) dX10_rule_89 (by decide) (fun c9 => ?_) (fun c9 => ?_)
  · rw [if_neg c9] at h
    refine WP.aload_n dX10_rule_117 rfl rfl ?_
    refine WP.iconst (v := 0) dX10_rule_118 (by decide) ?_
    obtain ⟨M10, h11, h⟩ := Option.bind_eq_some_iff.mp h
    refine WP.putF (j := 10) (ty := .boolean) dX10_rule_119 rfl rfl in_X10 tyX10_ok nmX10 (by decide) wd_702 rfl (by decide +kernel) (by decide) (by decide) rfl h11 ?_
    refine WP.iconst (v := 1) dX10_rule_122 (by decide) ?_
    cases h
    exact WP.iret dX10_rule_123 ⟨rfl, rfl⟩
  · rw [if_pos c9] at h
    refine WP.aload_n dX10_rule_92 rfl rfl ?_
    refine WP.iload_n dX10_rule_93 rfl rfl ?_
    obtain ⟨M13, h12, h⟩ := Option.bind_eq_some_iff.mp h
    refine WP.callVV [.int a1] dX10_rule_94 lk_X10_145 rfl rfl rfl (Nat.le_of_ble_eq_true rfl) (by decide) (Nat.le_of_ble_eq_true rfl) rfl (TX10_findRing h12) ?_
    refine WP.aload_n dX10_rule_97 rfl rfl ?_
    refine WP.getR (j := 4) dX10_rule_98 rfl rfl in_X10 (by decide) wd_696 rfl ?_
    refine WP.iconst (v := 4) dX10_rule_101 (by decide) ?_
    refine WP.iload_n dX10_rule_102 rfl rfl ?_
    refine WP.imul dX10_rule_103 ?_
    refine WP.iload_n dX10_rule_104 rfl rfl ?_
    refine WP.iadd dX10_rule_105 ?_
    refine WP.iload dX10_rule_106 rfl ?_
    obtain ⟨M14, h15, h⟩ := Option.bind_eq_some_iff.mp h
    refine WP.iastQ dX10_rule_108 rfl h15 ?_
    refine WP.aload_n dX10_rule_109 rfl rfl ?_
    refine WP.iconst (v := 0) dX10_rule_110 (by decide) ?_
    obtain ⟨M16, h17, h⟩ := Option.bind_eq_some_iff.mp h
    refine WP.putF (j := 10) (ty := .boolean) dX10_rule_111 rfl rfl in_X10 tyX10_ok nmX10 (by decide) wd_702 rfl (by decide +kernel) (by decide) (by decide) rfl h17 ?_
    refine WP.bipush (v := (-3)) dX10_rule_114 (by decide) ?_
    cases h
    exact WP.iret dX10_rule_116 ⟨rfl, rfl⟩
set_option maxRecDepth 20000 in
theorem tX10_rule_24 {l : Launch} {G : va_G} {tc : Nat → ClassId} {D : Nat → Nat} {N : Nat} {a1 : Int32} {a2 : Int32} {a3 : Int32} {M : Mm} {R : (Int32 × Mm)} (h : BX10_rule_24 N a1 a2 a3 M = some R) : WP l G tc D lay (fun _ => True) RX10 cX10_rule 5 rX10_rule (.code yX10_rule cX10_rule 5 (some .int)) 24 [some (.ref 69), some (.int a1), some (.int a2), some (.int a3), none] [] M (RetQ cX10_rule (some .int) (RQI R.1 R.2)) := by
  unfold BX10_rule_24 at h
  refine WP.iload_n dX10_rule_24 rfl rfl ?_
  refine WP.iconst (v := 0) dX10_rule_25 (by decide) ?_
  refine WP.iconst (v := 3) dX10_rule_26 (by decide) ?_
  obtain ⟨r2, h1, h⟩ := Option.bind_eq_some_iff.mp h
  refine WP.callSI [.int a2, .int 0, .int 3] dX10_rule_27 lk_X10_99 rfl (Nat.le_of_ble_eq_true rfl) (by decide) (Nat.le_of_ble_eq_true rfl) rfl (TX10_in h1) ?_
  refine WP.if_eq (tgt := 48) dX10_rule_30 (by decide) (fun c3 => ?_) (fun c3 => ?_)
  · rw [if_pos c3] at h
    refine WP.bipush (v := (-2)) dX10_rule_48 (by decide) ?_
    cases h
    exact WP.iret dX10_rule_50 ⟨rfl, rfl⟩
  · rw [if_neg c3] at h
    refine WP.iload_n dX10_rule_33 rfl rfl ?_
    refine WP.iconst (v := 3) dX10_rule_34 (by decide) ?_
    refine WP.icmp_ne (tgt := 51) dX10_rule_35 (by decide) (fun c4 => ?_) (fun c4 => ?_)
    · rw [if_neg c4] at h
      refine WP.fgt [true, true, true, true, false] rfl ?_
      exact tX10_rule_51  h
    · rw [if_pos c4] at h
      refine WP.aload_n dX10_rule_38 rfl rfl ?_
      refine WP.getR (j := 3) dX10_rule_39 rfl rfl in_X10 (by decide) wd_695 rfl ?_
      refine WP.iload_n dX10_rule_42 rfl rfl ?_
      obtain ⟨v5, h6, h⟩ := Option.bind_eq_some_iff.mp h
      refine WP.ialdQ dX10_rule_43 rfl h6 ?_
      refine WP.iconst (v := 1) dX10_rule_44 (by decide) ?_
      refine WP.icmp_eq (tgt := 51) dX10_rule_45 (by decide) (fun c7 => ?_) (fun c7 => ?_)
      · rw [if_pos c7] at h
        refine WP.fgt [true, true, true, true, false] rfl ?_
        exact tX10_rule_51  h
      · rw [if_neg c7] at h
        refine WP.bipush (v := (-2)) dX10_rule_48 (by decide) ?_
        cases h
        exact WP.iret dX10_rule_50 ⟨rfl, rfl⟩
set_option maxRecDepth 20000 in
theorem TX10_rule {l : Launch} {G : va_G} {tc : Nat → ClassId} {D : Nat → Nat} {N : Nat} {x1 : Int32} {x2 : Int32} {x3 : Int32} {M : Mm} {R : (Int32 × Mm)} (h : FX10_rule N x1 x2 x3 M = some R) : WP l G tc D lay (fun _ => True) yX10_rule.cls cX10_rule 5 rX10_rule (.code yX10_rule cX10_rule 5 (some .int)) 0 (entL 5 [.ref 69, .int x1, .int x2, .int x3]) [] M (RetQ cX10_rule (some .int) (RQI R.1 R.2)) := by
  show WP l G tc D lay (fun _ => True) RX10 cX10_rule 5 rX10_rule (.code yX10_rule cX10_rule 5 (some .int)) 0 [some (.ref 69), some (.int x1), some (.int x2), some (.int x3), none] [] M (RetQ cX10_rule (some .int) (RQI R.1 R.2))
  unfold FX10_rule at h
  refine WP.aload_n dX10_rule_0 rfl rfl ?_
  refine WP.iload_n dX10_rule_1 rfl rfl ?_
  obtain ⟨r2, h1, h⟩ := Option.bind_eq_some_iff.mp h
  refine WP.callVI [.int x1] dX10_rule_2 lk_X10_114 rfl rfl rfl (Nat.le_of_ble_eq_true rfl) (by decide) (Nat.le_of_ble_eq_true rfl) rfl (TX10_noField h1) ?_
  refine WP.if_ne (tgt := 22) dX10_rule_5 (by decide) (fun c3 => ?_) (fun c3 => ?_)
  · rw [if_neg c3] at h
    refine WP.iconst (v := (-1)) dX10_rule_22 (by decide) ?_
    cases h
    exact WP.iret dX10_rule_23 ⟨rfl, rfl⟩
  · rw [if_pos c3] at h
    refine WP.iload_n dX10_rule_8 rfl rfl ?_
    refine WP.bipush (v := (-9)) dX10_rule_9 (by decide) ?_
    refine WP.icmp_eq (tgt := 24) dX10_rule_11 (by decide) (fun c4 => ?_) (fun c4 => ?_)
    · rw [if_pos c4] at h
      refine WP.fgt [true, true, true, true, false] rfl ?_
      exact tX10_rule_24  h
    · rw [if_neg c4] at h
      refine WP.aload_n dX10_rule_14 rfl rfl ?_
      refine WP.iload_n dX10_rule_15 rfl rfl ?_
      obtain ⟨r6, h5, h⟩ := Option.bind_eq_some_iff.mp h
      refine WP.callVI [.int x3] dX10_rule_16 lk_X10_117 rfl rfl rfl (Nat.le_of_ble_eq_true rfl) (by decide) (Nat.le_of_ble_eq_true rfl) rfl (TX10_noPart h5) ?_
      refine WP.if_eq (tgt := 24) dX10_rule_19 (by decide) (fun c7 => ?_) (fun c7 => ?_)
      · rw [if_pos c7] at h
        refine WP.fgt [true, true, true, true, false] rfl ?_
        exact tX10_rule_24  h
      · rw [if_neg c7] at h
        refine WP.iconst (v := (-1)) dX10_rule_22 (by decide) ?_
        cases h
        exact WP.iret dX10_rule_23 ⟨rfl, rfl⟩
/-! X10_ring -/
def rX10_ring : Room := { frames := 1, cells := 0, slots := 0, locals := 22 }
def FX10_ring (x1 : Int32) (M : Mm) : Option Int32 :=
  (FX10_in x1 0 ((M.1 69 15) - 1) M).bind fun r2 => (if r2 = 0 then some (-1) else (rdI M 82 12 x1).bind fun v4 => some v4)
theorem eFX10_ring (x1 : Int32) (M : Mm) : FX10_ring x1 M = (FX10_in x1 0 ((M.1 69 15) - 1) M).bind fun r2 => (if r2 = 0 then some (-1) else (rdI M 82 12 x1).bind fun v4 => some v4) := rfl
set_option maxRecDepth 20000 in
theorem TX10_ring {l : Launch} {G : va_G} {tc : Nat → ClassId} {D : Nat → Nat} {x1 : Int32} {M : Mm} {R : Int32} (h : FX10_ring x1 M = some R) : WP l G tc D lay (fun _ => True) yX10_ring.cls cX10_ring 2 rX10_ring (.code yX10_ring cX10_ring 2 (some .int)) 0 (entL 2 [.ref 69, .int x1]) [] M (RetQ cX10_ring (some .int) (RQI R M)) := by
  show WP l G tc D lay (fun _ => True) RX10 cX10_ring 2 rX10_ring (.code yX10_ring cX10_ring 2 (some .int)) 0 [some (.ref 69), some (.int x1)] [] M (RetQ cX10_ring (some .int) (RQI R M))
  unfold FX10_ring at h
  refine WP.iload_n dX10_ring_0 rfl rfl ?_
  refine WP.iconst (v := 0) dX10_ring_1 (by decide) ?_
  refine WP.aload_n dX10_ring_2 rfl rfl ?_
  refine WP.getI (j := 15) dX10_ring_3 rfl rfl in_X10 (by decide) wd_707 rfl ?_
  refine WP.iconst (v := 1) dX10_ring_6 (by decide) ?_
  refine WP.isub dX10_ring_7 ?_
  obtain ⟨r2, h1, h⟩ := Option.bind_eq_some_iff.mp h
  refine WP.callSI [.int x1, .int 0, .int ((M.1 69 15) - 1)] dX10_ring_8 lk_X10_99 rfl (Nat.le_of_ble_eq_true rfl) (by decide) (Nat.le_of_ble_eq_true rfl) rfl (TX10_in h1) ?_
  refine WP.if_eq (tgt := 23) dX10_ring_11 (by decide) (fun c3 => ?_) (fun c3 => ?_)
  · rw [if_pos c3] at h
    refine WP.iconst (v := (-1)) dX10_ring_23 (by decide) ?_
    cases h
    exact WP.iret dX10_ring_24 ⟨rfl, rfl⟩
  · rw [if_neg c3] at h
    refine WP.aload_n dX10_ring_14 rfl rfl ?_
    refine WP.getR (j := 16) dX10_ring_15 rfl rfl in_X10 (by decide) wd_708 rfl ?_
    refine WP.iload_n dX10_ring_18 rfl rfl ?_
    obtain ⟨v4, h5, h⟩ := Option.bind_eq_some_iff.mp h
    refine WP.ialdQ dX10_ring_19 rfl h5 ?_
    refine WP.goto (tgt := 24) dX10_ring_20 (by decide) ?_
    cases h
    exact WP.iret dX10_ring_24 ⟨rfl, rfl⟩
/-! X10_followers -/
def rX10_followers : Room := { frames := 0, cells := 0, slots := 0, locals := 0 }
def BX10_followers_4 (N : Nat) (M : Mm) (K4 : Int32 × Int32 × Int32 → Option Int32) (q : Int32 × Int32 × Int32) : Option Int32 :=
  (if (M.1 69 0) ≤ q.2.2 then some q.2.1 else (rdI M 79 12 q.2.2).bind fun v2 => K4 (q.1, (q.2.1 + ((v2 >>> (q.1 &&& 31)) &&& 1)), (q.2.2 + 1)))
def FX10_followers (N : Nat) (x1 : Int32) (M : Mm) : Option Int32 :=
  lp (BX10_followers_4 N M) N (x1, 0, 0)
theorem eBX10_followers_4 (N : Nat) (M : Mm) (K4 : Int32 × Int32 × Int32 → Option Int32) (q : Int32 × Int32 × Int32) : BX10_followers_4 N M K4 q = (if (M.1 69 0) ≤ q.2.2 then some q.2.1 else (rdI M 79 12 q.2.2).bind fun v2 => K4 (q.1, (q.2.1 + ((v2 >>> (q.1 &&& 31)) &&& 1)), (q.2.2 + 1))) := rfl
theorem eFX10_followers (N : Nat) (x1 : Int32) (M : Mm) : FX10_followers N x1 M = lp (BX10_followers_4 N M) N (x1, 0, 0) := rfl
set_option maxRecDepth 20000 in
theorem tX10_followers_4 {l : Launch} {G : va_G} {tc : Nat → ClassId} {D : Nat → Nat} {N : Nat} {M : Mm} : ∀ (nn : Nat) (q : Int32 × Int32 × Int32) (R : Int32), lp (BX10_followers_4 N M) nn q = some R → WP l G tc D lay (fun _ => True) RX10 cX10_followers 4 rX10_followers (.code yX10_followers cX10_followers 4 (some .int)) 4 [some (.ref 69), some (.int q.1), some (.int q.2.1), some (.int q.2.2)] [] M (RetQ cX10_followers (some .int) (RQI R M)) := by
  refine lp_ind (fun K4 hK4q q R h => ?_)
  have hK4 : ∀ (z0 : Int32) (z1 : Int32) (z2 : Int32) (R : Int32), K4 (z0, z1, z2) = some R → WP l G tc D lay (fun _ => True) RX10 cX10_followers 4 rX10_followers (.code yX10_followers cX10_followers 4 (some .int)) 4 [some (.ref 69), some (.int z0), some (.int z1), some (.int z2)] [] M (RetQ cX10_followers (some .int) (RQI R M)) := fun z0 z1 z2 R hh => hK4q (z0, z1, z2) R hh
  unfold BX10_followers_4 at h
  refine WP.iload_n dX10_followers_4 rfl rfl ?_
  refine WP.aload_n dX10_followers_5 rfl rfl ?_
  refine WP.getI (j := 0) dX10_followers_6 rfl rfl in_X10 (by decide) wd_692 rfl ?_
  refine WP.icmp_ge (tgt := 31) dX10_followers_9 (by decide) (fun c1 => ?_) (fun c1 => ?_)
  · rw [if_pos c1] at h
    refine WP.iload_n dX10_followers_31 rfl rfl ?_
    cases h
    exact WP.iret dX10_followers_32 ⟨rfl, rfl⟩
  · rw [if_neg c1] at h
    refine WP.iload_n dX10_followers_12 rfl rfl ?_
    refine WP.aload_n dX10_followers_13 rfl rfl ?_
    refine WP.getR (j := 12) dX10_followers_14 rfl rfl in_X10 (by decide) wd_704 rfl ?_
    refine WP.iload_n dX10_followers_17 rfl rfl ?_
    obtain ⟨v2, h3, h⟩ := Option.bind_eq_some_iff.mp h
    refine WP.ialdQ dX10_followers_18 rfl h3 ?_
    refine WP.iload_n dX10_followers_19 rfl rfl ?_
    refine WP.ishr dX10_followers_20 ?_
    refine WP.iconst (v := 1) dX10_followers_21 (by decide) ?_
    refine WP.iand dX10_followers_22 ?_
    refine WP.iadd dX10_followers_23 ?_
    refine WP.istore_n dX10_followers_24 rfl (by decide) rfl rfl ?_
    refine WP.iinc (v := (q.2.2 + 1)) dX10_followers_25 rfl rfl (by decide) rfl rfl ?_
    refine WP.goto (tgt := 4) dX10_followers_28 (by decide) ?_
    refine WP.fgt [true, true, true, true] rfl ?_
    exact hK4 q.1 (q.2.1 + ((v2 >>> (q.1 &&& 31)) &&& 1)) (q.2.2 + 1) _ h
theorem uX10_followers_4 {l : Launch} {G : va_G} {tc : Nat → ClassId} {D : Nat → Nat} {N : Nat} {M : Mm} (nn : Nat) : ∀ (z0 : Int32) (z1 : Int32) (z2 : Int32) (R : Int32), lp (BX10_followers_4 N M) nn (z0, z1, z2) = some R → WP l G tc D lay (fun _ => True) RX10 cX10_followers 4 rX10_followers (.code yX10_followers cX10_followers 4 (some .int)) 4 [some (.ref 69), some (.int z0), some (.int z1), some (.int z2)] [] M (RetQ cX10_followers (some .int) (RQI R M)) := fun z0 z1 z2 R hh => tX10_followers_4  nn (z0, z1, z2) R hh
set_option maxRecDepth 20000 in
theorem TX10_followers {l : Launch} {G : va_G} {tc : Nat → ClassId} {D : Nat → Nat} {N : Nat} {x1 : Int32} {M : Mm} {R : Int32} (h : FX10_followers N x1 M = some R) : WP l G tc D lay (fun _ => True) yX10_followers.cls cX10_followers 4 rX10_followers (.code yX10_followers cX10_followers 4 (some .int)) 0 (entL 4 [.ref 69, .int x1]) [] M (RetQ cX10_followers (some .int) (RQI R M)) := by
  show WP l G tc D lay (fun _ => True) RX10 cX10_followers 4 rX10_followers (.code yX10_followers cX10_followers 4 (some .int)) 0 [some (.ref 69), some (.int x1), none, none] [] M (RetQ cX10_followers (some .int) (RQI R M))
  unfold FX10_followers at h
  refine WP.iconst (v := 0) dX10_followers_0 (by decide) ?_
  refine WP.istore_n dX10_followers_1 rfl (by decide) rfl rfl ?_
  refine WP.iconst (v := 0) dX10_followers_2 (by decide) ?_
  refine WP.istore_n dX10_followers_3 rfl (by decide) rfl rfl ?_
  refine WP.fgt [true, true, true, true] rfl ?_
  exact uX10_followers_4  N x1 0 0 _ h
/-! X10_about -/
def rX10_about : Room := { frames := 6, cells := 0, slots := 0, locals := 136 }
def FX10_about (N : Nat) (x1 : Int32) (x2 : Int32) (M : Mm) : Option (Int32 × Mm) :=
  (FX10_noField x1 M).bind fun r2 => (if r2 = 0 then (FX10_in x2 3 6 M).bind fun r5 => (if r5 = 0 then (FX10_arrange N M).bind fun M8 => (if x2 = 0 then (rdI M8 70 12 x1).bind fun v10 => some (v10, M8) else (if x2 = 1 then (rdI M8 71 12 x1).bind fun v13 => some (v13, M8) else (if x2 = 2 then (rdI M8 72 12 x1).bind fun v16 => some (v16, M8) else (if x2 = 7 then (rdI M8 79 12 x1).bind fun v19 => (FX10_count N v19 M8).bind fun r22 => some (r22, M8) else (if x2 = 8 then (FX10_followers N x1 M8).bind fun r25 => some (r25, M8) else some ((-2), M8)))))) else (rdI M 73 48 ((((4 : Int32) * x1) + x2) - 3)).bind fun v26 => some (v26, M)) else some ((-1), M))
theorem eFX10_about (N : Nat) (x1 : Int32) (x2 : Int32) (M : Mm) : FX10_about N x1 x2 M = (FX10_noField x1 M).bind fun r2 => (if r2 = 0 then (FX10_in x2 3 6 M).bind fun r5 => (if r5 = 0 then (FX10_arrange N M).bind fun M8 => (if x2 = 0 then (rdI M8 70 12 x1).bind fun v10 => some (v10, M8) else (if x2 = 1 then (rdI M8 71 12 x1).bind fun v13 => some (v13, M8) else (if x2 = 2 then (rdI M8 72 12 x1).bind fun v16 => some (v16, M8) else (if x2 = 7 then (rdI M8 79 12 x1).bind fun v19 => (FX10_count N v19 M8).bind fun r22 => some (r22, M8) else (if x2 = 8 then (FX10_followers N x1 M8).bind fun r25 => some (r25, M8) else some ((-2), M8)))))) else (rdI M 73 48 ((((4 : Int32) * x1) + x2) - 3)).bind fun v26 => some (v26, M)) else some ((-1), M)) := rfl
set_option maxRecDepth 20000 in
theorem TX10_about {l : Launch} {G : va_G} {tc : Nat → ClassId} {D : Nat → Nat} {N : Nat} {x1 : Int32} {x2 : Int32} {M : Mm} {R : (Int32 × Mm)} (h : FX10_about N x1 x2 M = some R) : WP l G tc D lay (fun _ => True) yX10_about.cls cX10_about 3 rX10_about (.code yX10_about cX10_about 3 (some .int)) 0 (entL 3 [.ref 69, .int x1, .int x2]) [] M (RetQ cX10_about (some .int) (RQI R.1 R.2)) := by
  show WP l G tc D lay (fun _ => True) RX10 cX10_about 3 rX10_about (.code yX10_about cX10_about 3 (some .int)) 0 [some (.ref 69), some (.int x1), some (.int x2)] [] M (RetQ cX10_about (some .int) (RQI R.1 R.2))
  unfold FX10_about at h
  refine WP.aload_n dX10_about_0 rfl rfl ?_
  refine WP.iload_n dX10_about_1 rfl rfl ?_
  obtain ⟨r2, h1, h⟩ := Option.bind_eq_some_iff.mp h
  refine WP.callVI [.int x1] dX10_about_2 lk_X10_114 rfl rfl rfl (Nat.le_of_ble_eq_true rfl) (by decide) (Nat.le_of_ble_eq_true rfl) rfl (TX10_noField h1) ?_
  refine WP.if_eq (tgt := 10) dX10_about_5 (by decide) (fun c3 => ?_) (fun c3 => ?_)
  · rw [if_pos c3] at h
    refine WP.iload_n dX10_about_10 rfl rfl ?_
    refine WP.iconst (v := 3) dX10_about_11 (by decide) ?_
    refine WP.bipush (v := 6) dX10_about_12 (by decide) ?_
    obtain ⟨r5, h4, h⟩ := Option.bind_eq_some_iff.mp h
    refine WP.callSI [.int x2, .int 3, .int 6] dX10_about_14 lk_X10_99 rfl (Nat.le_of_ble_eq_true rfl) (by decide) (Nat.le_of_ble_eq_true rfl) rfl (TX10_in h4) ?_
    refine WP.if_eq (tgt := 33) dX10_about_17 (by decide) (fun c6 => ?_) (fun c6 => ?_)
    · rw [if_pos c6] at h
      refine WP.aload_n dX10_about_33 rfl rfl ?_
      obtain ⟨M8, h7, h⟩ := Option.bind_eq_some_iff.mp h
      refine WP.callVV [] dX10_about_34 lk_X10_149 rfl rfl rfl (Nat.le_of_ble_eq_true rfl) (by decide) (Nat.le_of_ble_eq_true rfl) rfl (TX10_arrange h7) ?_
      refine WP.iload_n dX10_about_37 rfl rfl ?_
      by_cases c9 : x2 = 0
      · rw [if_pos c9] at h
        refine WP.tbl (off := 50) (tgt := 88) dX10_about_38 (by rw [c9]; decide) (by decide) ?_
        refine WP.aload_n dX10_about_88 rfl rfl ?_
        refine WP.getR (j := 1) dX10_about_89 rfl rfl in_X10 (by decide) wd_693 rfl ?_
        refine WP.iload_n dX10_about_92 rfl rfl ?_
        obtain ⟨v10, h11, h⟩ := Option.bind_eq_some_iff.mp h
        refine WP.ialdQ dX10_about_93 rfl h11 ?_
        cases h
        exact WP.iret dX10_about_94 ⟨rfl, rfl⟩
      · rw [if_neg c9] at h
        by_cases c12 : x2 = 1
        · rw [if_pos c12] at h
          refine WP.tbl (off := 57) (tgt := 95) dX10_about_38 (by rw [c12]; decide) (by decide) ?_
          refine WP.aload_n dX10_about_95 rfl rfl ?_
          refine WP.getR (j := 2) dX10_about_96 rfl rfl in_X10 (by decide) wd_694 rfl ?_
          refine WP.iload_n dX10_about_99 rfl rfl ?_
          obtain ⟨v13, h14, h⟩ := Option.bind_eq_some_iff.mp h
          refine WP.ialdQ dX10_about_100 rfl h14 ?_
          cases h
          exact WP.iret dX10_about_101 ⟨rfl, rfl⟩
        · rw [if_neg c12] at h
          by_cases c15 : x2 = 2
          · rw [if_pos c15] at h
            refine WP.tbl (off := 64) (tgt := 102) dX10_about_38 (by rw [c15]; decide) (by decide) ?_
            refine WP.aload_n dX10_about_102 rfl rfl ?_
            refine WP.getR (j := 3) dX10_about_103 rfl rfl in_X10 (by decide) wd_695 rfl ?_
            refine WP.iload_n dX10_about_106 rfl rfl ?_
            obtain ⟨v16, h17, h⟩ := Option.bind_eq_some_iff.mp h
            refine WP.ialdQ dX10_about_107 rfl h17 ?_
            cases h
            exact WP.iret dX10_about_108 ⟨rfl, rfl⟩
          · rw [if_neg c15] at h
            by_cases c18 : x2 = 7
            · rw [if_pos c18] at h
              refine WP.tbl (off := 71) (tgt := 109) dX10_about_38 (by rw [c18]; decide) (by decide) ?_
              refine WP.aload_n dX10_about_109 rfl rfl ?_
              refine WP.getR (j := 12) dX10_about_110 rfl rfl in_X10 (by decide) wd_704 rfl ?_
              refine WP.iload_n dX10_about_113 rfl rfl ?_
              obtain ⟨v19, h20, h⟩ := Option.bind_eq_some_iff.mp h
              refine WP.ialdQ dX10_about_114 rfl h20 ?_
              obtain ⟨r22, h21, h⟩ := Option.bind_eq_some_iff.mp h
              refine WP.callSI [.int v19] dX10_about_115 lk_X10_136 rfl (Nat.le_of_ble_eq_true rfl) (by decide) (Nat.le_of_ble_eq_true rfl) rfl (TX10_count h21) ?_
              cases h
              exact WP.iret dX10_about_118 ⟨rfl, rfl⟩
            · rw [if_neg c18] at h
              by_cases c23 : x2 = 8
              · rw [if_pos c23] at h
                refine WP.tbl (off := 81) (tgt := 119) dX10_about_38 (by rw [c23]; decide) (by decide) ?_
                refine WP.aload_n dX10_about_119 rfl rfl ?_
                refine WP.iload_n dX10_about_120 rfl rfl ?_
                obtain ⟨r25, h24, h⟩ := Option.bind_eq_some_iff.mp h
                refine WP.callVI [.int x1] dX10_about_121 lk_X10_152 rfl rfl rfl (Nat.le_of_ble_eq_true rfl) (by decide) (Nat.le_of_ble_eq_true rfl) rfl (TX10_followers h24) ?_
                cases h
                exact WP.iret dX10_about_124 ⟨rfl, rfl⟩
              · rw [if_neg c23] at h
                refine WP.tbl (off := 87) (tgt := 125) dX10_about_38 (by
                    have n0 := lv_neT (k := 0) (a := 0) (fun z => c9 (z)) (by decide)
                    have n1 := lv_neT (k := 1) (a := 1) (fun z => c12 (z)) (by decide)
                    have n2 := lv_neT (k := 2) (a := 2) (fun z => c15 (z)) (by decide)
                    have n7 := lv_neT (k := 7) (a := 7) (fun z => c18 (z)) (by decide)
                    have n8 := lv_neT (k := 8) (a := 8) (fun z => c23 (z)) (by decide)
                    exact swT_def2  (fun hlo hhi => by
                      have hh : x2.toInt = 3 ∨ x2.toInt = 4 ∨ x2.toInt = 5 ∨ x2.toInt = 6 := by omega
                      rcases hh with hh | hh | hh | hh <;> (rw [hh]; decide))) (by decide) ?_
                refine WP.bipush (v := (-2)) dX10_about_125 (by decide) ?_
                cases h
                exact WP.iret dX10_about_127 ⟨rfl, rfl⟩
    · rw [if_neg c6] at h
      refine WP.aload_n dX10_about_20 rfl rfl ?_
      refine WP.getR (j := 4) dX10_about_21 rfl rfl in_X10 (by decide) wd_696 rfl ?_
      refine WP.iconst (v := 4) dX10_about_24 (by decide) ?_
      refine WP.iload_n dX10_about_25 rfl rfl ?_
      refine WP.imul dX10_about_26 ?_
      refine WP.iload_n dX10_about_27 rfl rfl ?_
      refine WP.iadd dX10_about_28 ?_
      refine WP.iconst (v := 3) dX10_about_29 (by decide) ?_
      refine WP.isub dX10_about_30 ?_
      obtain ⟨v26, h27, h⟩ := Option.bind_eq_some_iff.mp h
      refine WP.ialdQ dX10_about_31 rfl h27 ?_
      cases h
      exact WP.iret dX10_about_32 ⟨rfl, rfl⟩
  · rw [if_neg c3] at h
    refine WP.iconst (v := (-1)) dX10_about_8 (by decide) ?_
    cases h
    exact WP.iret dX10_about_9 ⟨rfl, rfl⟩
/-! X10_hangs -/
def rX10_hangs : Room := { frames := 6, cells := 0, slots := 0, locals := 136 }
def FX10_hangs (N : Nat) (x1 : Int32) (x2 : Int32) (M : Mm) : Option (Int32 × Mm) :=
  (FX10_noField x1 M).bind fun r2 => (if r2 = 0 then (FX10_noField x2 M).bind fun r5 => (if r5 = 0 then (FX10_arrange N M).bind fun M8 => (rdI M8 79 12 x1).bind fun v9 => some (((v9 >>> (x2 &&& 31)) &&& 1), M8) else some ((-1), M)) else some ((-1), M))
theorem eFX10_hangs (N : Nat) (x1 : Int32) (x2 : Int32) (M : Mm) : FX10_hangs N x1 x2 M = (FX10_noField x1 M).bind fun r2 => (if r2 = 0 then (FX10_noField x2 M).bind fun r5 => (if r5 = 0 then (FX10_arrange N M).bind fun M8 => (rdI M8 79 12 x1).bind fun v9 => some (((v9 >>> (x2 &&& 31)) &&& 1), M8) else some ((-1), M)) else some ((-1), M)) := rfl
set_option maxRecDepth 20000 in
theorem TX10_hangs {l : Launch} {G : va_G} {tc : Nat → ClassId} {D : Nat → Nat} {N : Nat} {x1 : Int32} {x2 : Int32} {M : Mm} {R : (Int32 × Mm)} (h : FX10_hangs N x1 x2 M = some R) : WP l G tc D lay (fun _ => True) yX10_hangs.cls cX10_hangs 3 rX10_hangs (.code yX10_hangs cX10_hangs 3 (some .int)) 0 (entL 3 [.ref 69, .int x1, .int x2]) [] M (RetQ cX10_hangs (some .int) (RQI R.1 R.2)) := by
  show WP l G tc D lay (fun _ => True) RX10 cX10_hangs 3 rX10_hangs (.code yX10_hangs cX10_hangs 3 (some .int)) 0 [some (.ref 69), some (.int x1), some (.int x2)] [] M (RetQ cX10_hangs (some .int) (RQI R.1 R.2))
  unfold FX10_hangs at h
  refine WP.aload_n dX10_hangs_0 rfl rfl ?_
  refine WP.iload_n dX10_hangs_1 rfl rfl ?_
  obtain ⟨r2, h1, h⟩ := Option.bind_eq_some_iff.mp h
  refine WP.callVI [.int x1] dX10_hangs_2 lk_X10_114 rfl rfl rfl (Nat.le_of_ble_eq_true rfl) (by decide) (Nat.le_of_ble_eq_true rfl) rfl (TX10_noField h1) ?_
  refine WP.if_ne (tgt := 16) dX10_hangs_5 (by decide) (fun c3 => ?_) (fun c3 => ?_)
  · rw [if_neg c3] at h
    refine WP.iconst (v := (-1)) dX10_hangs_16 (by decide) ?_
    cases h
    exact WP.iret dX10_hangs_17 ⟨rfl, rfl⟩
  · rw [if_pos c3] at h
    refine WP.aload_n dX10_hangs_8 rfl rfl ?_
    refine WP.iload_n dX10_hangs_9 rfl rfl ?_
    obtain ⟨r5, h4, h⟩ := Option.bind_eq_some_iff.mp h
    refine WP.callVI [.int x2] dX10_hangs_10 lk_X10_114 rfl rfl rfl (Nat.le_of_ble_eq_true rfl) (by decide) (Nat.le_of_ble_eq_true rfl) rfl (TX10_noField h4) ?_
    refine WP.if_eq (tgt := 18) dX10_hangs_13 (by decide) (fun c6 => ?_) (fun c6 => ?_)
    · rw [if_pos c6] at h
      refine WP.aload_n dX10_hangs_18 rfl rfl ?_
      obtain ⟨M8, h7, h⟩ := Option.bind_eq_some_iff.mp h
      refine WP.callVV [] dX10_hangs_19 lk_X10_149 rfl rfl rfl (Nat.le_of_ble_eq_true rfl) (by decide) (Nat.le_of_ble_eq_true rfl) rfl (TX10_arrange h7) ?_
      refine WP.aload_n dX10_hangs_22 rfl rfl ?_
      refine WP.getR (j := 12) dX10_hangs_23 rfl rfl in_X10 (by decide) wd_704 rfl ?_
      refine WP.iload_n dX10_hangs_26 rfl rfl ?_
      obtain ⟨v9, h10, h⟩ := Option.bind_eq_some_iff.mp h
      refine WP.ialdQ dX10_hangs_27 rfl h10 ?_
      refine WP.iload_n dX10_hangs_28 rfl rfl ?_
      refine WP.ishr dX10_hangs_29 ?_
      refine WP.iconst (v := 1) dX10_hangs_30 (by decide) ?_
      refine WP.iand dX10_hangs_31 ?_
      cases h
      exact WP.iret dX10_hangs_32 ⟨rfl, rfl⟩
    · rw [if_neg c6] at h
      refine WP.iconst (v := (-1)) dX10_hangs_16 (by decide) ?_
      cases h
      exact WP.iret dX10_hangs_17 ⟨rfl, rfl⟩
/-! X10_cut -/
def rX10_cut : Room := { frames := 0, cells := 0, slots := 0, locals := 0 }
def FX10_cut (x1 : Int64) (M : Mm) : Option Int32 :=
  (if (lg_cmp x1 1000000) ≤ 0 then (if 0 ≤ (lg_cmp x1 (-1000000)) then some x1.toInt32 else some (-1000000)) else some 1000000)
theorem eFX10_cut (x1 : Int64) (M : Mm) : FX10_cut x1 M = (if (lg_cmp x1 1000000) ≤ 0 then (if 0 ≤ (lg_cmp x1 (-1000000)) then some x1.toInt32 else some (-1000000)) else some 1000000) := rfl
set_option maxRecDepth 20000 in
theorem TX10_cut {l : Launch} {G : va_G} {tc : Nat → ClassId} {D : Nat → Nat} {x1 : Int64} {M : Mm} {R : Int32} (h : FX10_cut x1 M = some R) : WP l G tc D lay (fun _ => True) yX10_cut.cls cX10_cut 2 rX10_cut (.code yX10_cut cX10_cut 2 (some .int)) 0 (entL 2 [.long x1]) [] M (RetQ cX10_cut (some .int) (RQI R M)) := by
  show WP l G tc D lay (fun _ => True) RX10 cX10_cut 2 rX10_cut (.code yX10_cut cX10_cut 2 (some .int)) 0 [some (.long x1), none] [] M (RetQ cX10_cut (some .int) (RQI R M))
  unfold FX10_cut at h
  refine WP.lload_n dX10_cut_0 rfl rfl ?_
  refine WP.ldc2 (v := 1000000) dX10_cut_1 wd_915 ?_
  refine WP.lcmp dX10_cut_4 ?_
  refine WP.if_le (tgt := 13) dX10_cut_5 (by decide) (fun c1 => ?_) (fun c1 => ?_)
  · rw [if_pos c1] at h
    refine WP.lload_n dX10_cut_13 rfl rfl ?_
    refine WP.ldc2 (v := (-1000000)) dX10_cut_14 wd_916 ?_
    refine WP.lcmp dX10_cut_17 ?_
    refine WP.if_ge (tgt := 26) dX10_cut_18 (by decide) (fun c2 => ?_) (fun c2 => ?_)
    · rw [if_pos c2] at h
      refine WP.lload_n dX10_cut_26 rfl rfl ?_
      refine WP.l2i dX10_cut_27 ?_
      cases h
      exact WP.iret dX10_cut_28 ⟨rfl, rfl⟩
    · rw [if_neg c2] at h
      refine WP.ldc (v := (-1000000)) dX10_cut_21 wd_821 ?_
      refine WP.goto (tgt := 28) dX10_cut_23 (by decide) ?_
      cases h
      exact WP.iret dX10_cut_28 ⟨rfl, rfl⟩
  · rw [if_neg c1] at h
    refine WP.ldc (v := 1000000) dX10_cut_8 wd_822 ?_
    refine WP.goto (tgt := 28) dX10_cut_10 (by decide) ?_
    cases h
    exact WP.iret dX10_cut_28 ⟨rfl, rfl⟩
/-! X10_ofTwo -/
def rX10_ofTwo : Room := { frames := 1, cells := 0, slots := 0, locals := 21 }
def BX10_ofTwo_67 (a1 : Int32) (a2 : Int32) (M : Mm) : Option Int32 :=
  (if a1 = (-2000000000) then some (-2000000000) else (if a2 = (-2000000000) then some (-2000000000) else some 0))
def BX10_ofTwo_53 (a1 : Int32) (a2 : Int32) (M : Mm) : Option Int32 :=
  (if a2 = (-2000000000) then BX10_ofTwo_67 a1 a2 M else (if a2 = 0 then BX10_ofTwo_67 a1 a2 M else some 1))
def FX10_ofTwo (x1 : Int32) (x2 : Int32) (x3 : Int32) (M : Mm) : Option Int32 :=
  (if x1 = 7 then (if x2 = 0 then some 0 else (if x3 = 0 then some 0 else (if x2 = (-2000000000) then some (-2000000000) else (if x3 = (-2000000000) then some (-2000000000) else some 1)))) else (if x1 = 8 then (if x2 = (-2000000000) then BX10_ofTwo_53 x2 x3 M else (if x2 = 0 then BX10_ofTwo_53 x2 x3 M else some 1)) else (if x2 = (-2000000000) then some (-2000000000) else (if x3 = (-2000000000) then some (-2000000000) else (if x1 = 2 then (FX10_cut (x2.toInt64 + x3.toInt64) M).bind fun r7 => some r7 else (if x1 = 3 then (FX10_cut (x2.toInt64 - x3.toInt64) M).bind fun r10 => some r10 else (if x1 = 4 then (FX10_cut (x2.toInt64 * x3.toInt64) M).bind fun r13 => some r13 else (if x1 = 5 then (if x2 = x3 then some 1 else some 0) else (if x3 ≤ x2 then some 0 else some 1)))))))))
theorem eBX10_ofTwo_67 (a1 : Int32) (a2 : Int32) (M : Mm) : BX10_ofTwo_67 a1 a2 M = (if a1 = (-2000000000) then some (-2000000000) else (if a2 = (-2000000000) then some (-2000000000) else some 0)) := rfl
theorem eBX10_ofTwo_53 (a1 : Int32) (a2 : Int32) (M : Mm) : BX10_ofTwo_53 a1 a2 M = (if a2 = (-2000000000) then BX10_ofTwo_67 a1 a2 M else (if a2 = 0 then BX10_ofTwo_67 a1 a2 M else some 1)) := rfl
theorem eFX10_ofTwo (x1 : Int32) (x2 : Int32) (x3 : Int32) (M : Mm) : FX10_ofTwo x1 x2 x3 M = (if x1 = 7 then (if x2 = 0 then some 0 else (if x3 = 0 then some 0 else (if x2 = (-2000000000) then some (-2000000000) else (if x3 = (-2000000000) then some (-2000000000) else some 1)))) else (if x1 = 8 then (if x2 = (-2000000000) then BX10_ofTwo_53 x2 x3 M else (if x2 = 0 then BX10_ofTwo_53 x2 x3 M else some 1)) else (if x2 = (-2000000000) then some (-2000000000) else (if x3 = (-2000000000) then some (-2000000000) else (if x1 = 2 then (FX10_cut (x2.toInt64 + x3.toInt64) M).bind fun r7 => some r7 else (if x1 = 3 then (FX10_cut (x2.toInt64 - x3.toInt64) M).bind fun r10 => some r10 else (if x1 = 4 then (FX10_cut (x2.toInt64 * x3.toInt64) M).bind fun r13 => some r13 else (if x1 = 5 then (if x2 = x3 then some 1 else some 0) else (if x3 ≤ x2 then some 0 else some 1))))))))) := rfl
set_option maxRecDepth 20000 in
theorem tX10_ofTwo_67 {l : Launch} {G : va_G} {tc : Nat → ClassId} {D : Nat → Nat} {a1 : Int32} {a2 : Int32} {M : Mm} {R : Int32} (h : BX10_ofTwo_67 a1 a2 M = some R) : WP l G tc D lay (fun _ => True) RX10 cX10_ofTwo 3 rX10_ofTwo (.code yX10_ofTwo cX10_ofTwo 3 (some .int)) 67 [none, some (.int a1), some (.int a2)] [] M (RetQ cX10_ofTwo (some .int) (RQI R M)) := by
  unfold BX10_ofTwo_67 at h
  refine WP.iload_n dX10_ofTwo_67 rfl rfl ?_
  refine WP.ldc (v := (-2000000000)) dX10_ofTwo_68 wd_691 ?_
  refine WP.icmp_eq (tgt := 79) dX10_ofTwo_70 (by decide) (fun c1 => ?_) (fun c1 => ?_)
  · rw [if_pos c1] at h
    refine WP.ldc (v := (-2000000000)) dX10_ofTwo_79 wd_691 ?_
    refine WP.goto (tgt := 85) dX10_ofTwo_81 (by decide) ?_
    cases h
    exact WP.iret dX10_ofTwo_85 ⟨rfl, rfl⟩
  · rw [if_neg c1] at h
    refine WP.iload_n dX10_ofTwo_73 rfl rfl ?_
    refine WP.ldc (v := (-2000000000)) dX10_ofTwo_74 wd_691 ?_
    refine WP.icmp_ne (tgt := 84) dX10_ofTwo_76 (by decide) (fun c2 => ?_) (fun c2 => ?_)
    · rw [if_neg c2] at h
      refine WP.iconst (v := 0) dX10_ofTwo_84 (by decide) ?_
      cases h
      exact WP.iret dX10_ofTwo_85 ⟨rfl, rfl⟩
    · rw [if_pos c2] at h
      refine WP.ldc (v := (-2000000000)) dX10_ofTwo_79 wd_691 ?_
      refine WP.goto (tgt := 85) dX10_ofTwo_81 (by decide) ?_
      cases h
      exact WP.iret dX10_ofTwo_85 ⟨rfl, rfl⟩
set_option maxRecDepth 20000 in
theorem tX10_ofTwo_53 {l : Launch} {G : va_G} {tc : Nat → ClassId} {D : Nat → Nat} {a1 : Int32} {a2 : Int32} {M : Mm} {R : Int32} (h : BX10_ofTwo_53 a1 a2 M = some R) : WP l G tc D lay (fun _ => True) RX10 cX10_ofTwo 3 rX10_ofTwo (.code yX10_ofTwo cX10_ofTwo 3 (some .int)) 53 [none, some (.int a1), some (.int a2)] [] M (RetQ cX10_ofTwo (some .int) (RQI R M)) := by
  unfold BX10_ofTwo_53 at h
  refine WP.iload_n dX10_ofTwo_53 rfl rfl ?_
  refine WP.ldc (v := (-2000000000)) dX10_ofTwo_54 wd_691 ?_
  refine WP.icmp_eq (tgt := 67) dX10_ofTwo_56 (by decide) (fun c1 => ?_) (fun c1 => ?_)
  · rw [if_pos c1] at h
    refine WP.fgt [false, true, true] rfl ?_
    exact tX10_ofTwo_67  h
  · rw [if_neg c1] at h
    refine WP.iload_n dX10_ofTwo_59 rfl rfl ?_
    refine WP.if_eq (tgt := 67) dX10_ofTwo_60 (by decide) (fun c2 => ?_) (fun c2 => ?_)
    · rw [if_pos c2] at h
      refine WP.fgt [false, true, true] rfl ?_
      exact tX10_ofTwo_67  h
    · rw [if_neg c2] at h
      refine WP.iconst (v := 1) dX10_ofTwo_63 (by decide) ?_
      refine WP.goto (tgt := 85) dX10_ofTwo_64 (by decide) ?_
      cases h
      exact WP.iret dX10_ofTwo_85 ⟨rfl, rfl⟩
set_option maxRecDepth 20000 in
theorem TX10_ofTwo {l : Launch} {G : va_G} {tc : Nat → ClassId} {D : Nat → Nat} {x1 : Int32} {x2 : Int32} {x3 : Int32} {M : Mm} {R : Int32} (h : FX10_ofTwo x1 x2 x3 M = some R) : WP l G tc D lay (fun _ => True) yX10_ofTwo.cls cX10_ofTwo 3 rX10_ofTwo (.code yX10_ofTwo cX10_ofTwo 3 (some .int)) 0 (entL 3 [.int x1, .int x2, .int x3]) [] M (RetQ cX10_ofTwo (some .int) (RQI R M)) := by
  show WP l G tc D lay (fun _ => True) RX10 cX10_ofTwo 3 rX10_ofTwo (.code yX10_ofTwo cX10_ofTwo 3 (some .int)) 0 [some (.int x1), some (.int x2), some (.int x3)] [] M (RetQ cX10_ofTwo (some .int) (RQI R M))
  unfold FX10_ofTwo at h
  refine WP.iload_n dX10_ofTwo_0 rfl rfl ?_
  refine WP.bipush (v := 7) dX10_ofTwo_1 (by decide) ?_
  refine WP.icmp_ne (tgt := 37) dX10_ofTwo_3 (by decide) (fun c1 => ?_) (fun c1 => ?_)
  · rw [if_neg c1] at h
    refine WP.iload_n dX10_ofTwo_37 rfl rfl ?_
    refine WP.bipush (v := 8) dX10_ofTwo_38 (by decide) ?_
    refine WP.icmp_ne (tgt := 86) dX10_ofTwo_40 (by decide) (fun c2 => ?_) (fun c2 => ?_)
    · rw [if_neg c2] at h
      refine WP.iload_n dX10_ofTwo_86 rfl rfl ?_
      refine WP.ldc (v := (-2000000000)) dX10_ofTwo_87 wd_691 ?_
      refine WP.icmp_eq (tgt := 98) dX10_ofTwo_89 (by decide) (fun c3 => ?_) (fun c3 => ?_)
      · rw [if_pos c3] at h
        refine WP.ldc (v := (-2000000000)) dX10_ofTwo_98 wd_691 ?_
        cases h
        exact WP.iret dX10_ofTwo_100 ⟨rfl, rfl⟩
      · rw [if_neg c3] at h
        refine WP.iload_n dX10_ofTwo_92 rfl rfl ?_
        refine WP.ldc (v := (-2000000000)) dX10_ofTwo_93 wd_691 ?_
        refine WP.icmp_ne (tgt := 101) dX10_ofTwo_95 (by decide) (fun c4 => ?_) (fun c4 => ?_)
        · rw [if_neg c4] at h
          refine WP.iload_n dX10_ofTwo_101 rfl rfl ?_
          by_cases c5 : x1 = 2
          · rw [if_pos c5] at h
            refine WP.tbl (off := 30) (tgt := 132) dX10_ofTwo_102 (by rw [c5]; decide) (by decide) ?_
            refine WP.iload_n dX10_ofTwo_132 rfl rfl ?_
            refine WP.i2l dX10_ofTwo_133 ?_
            refine WP.iload_n dX10_ofTwo_134 rfl rfl ?_
            refine WP.i2l dX10_ofTwo_135 ?_
            refine WP.ladd dX10_ofTwo_136 ?_
            obtain ⟨r7, h6, h⟩ := Option.bind_eq_some_iff.mp h
            refine WP.callSI [.long (x2.toInt64 + x3.toInt64)] dX10_ofTwo_137 lk_X10_159 rfl (Nat.le_of_ble_eq_true rfl) (by decide) (Nat.le_of_ble_eq_true rfl) rfl (TX10_cut h6) ?_
            cases h
            exact WP.iret dX10_ofTwo_140 ⟨rfl, rfl⟩
          · rw [if_neg c5] at h
            by_cases c8 : x1 = 3
            · rw [if_pos c8] at h
              refine WP.tbl (off := 39) (tgt := 141) dX10_ofTwo_102 (by rw [c8]; decide) (by decide) ?_
              refine WP.iload_n dX10_ofTwo_141 rfl rfl ?_
              refine WP.i2l dX10_ofTwo_142 ?_
              refine WP.iload_n dX10_ofTwo_143 rfl rfl ?_
              refine WP.i2l dX10_ofTwo_144 ?_
              refine WP.lsub dX10_ofTwo_145 ?_
              obtain ⟨r10, h9, h⟩ := Option.bind_eq_some_iff.mp h
              refine WP.callSI [.long (x2.toInt64 - x3.toInt64)] dX10_ofTwo_146 lk_X10_159 rfl (Nat.le_of_ble_eq_true rfl) (by decide) (Nat.le_of_ble_eq_true rfl) rfl (TX10_cut h9) ?_
              cases h
              exact WP.iret dX10_ofTwo_149 ⟨rfl, rfl⟩
            · rw [if_neg c8] at h
              by_cases c11 : x1 = 4
              · rw [if_pos c11] at h
                refine WP.tbl (off := 48) (tgt := 150) dX10_ofTwo_102 (by rw [c11]; decide) (by decide) ?_
                refine WP.iload_n dX10_ofTwo_150 rfl rfl ?_
                refine WP.i2l dX10_ofTwo_151 ?_
                refine WP.iload_n dX10_ofTwo_152 rfl rfl ?_
                refine WP.i2l dX10_ofTwo_153 ?_
                refine WP.lmul dX10_ofTwo_154 ?_
                obtain ⟨r13, h12, h⟩ := Option.bind_eq_some_iff.mp h
                refine WP.callSI [.long (x2.toInt64 * x3.toInt64)] dX10_ofTwo_155 lk_X10_159 rfl (Nat.le_of_ble_eq_true rfl) (by decide) (Nat.le_of_ble_eq_true rfl) rfl (TX10_cut h12) ?_
                cases h
                exact WP.iret dX10_ofTwo_158 ⟨rfl, rfl⟩
              · rw [if_neg c11] at h
                by_cases c14 : x1 = 5
                · rw [if_pos c14] at h
                  refine WP.tbl (off := 57) (tgt := 159) dX10_ofTwo_102 (by rw [c14]; decide) (by decide) ?_
                  refine WP.iload_n dX10_ofTwo_159 rfl rfl ?_
                  refine WP.iload_n dX10_ofTwo_160 rfl rfl ?_
                  refine WP.icmp_ne (tgt := 168) dX10_ofTwo_161 (by decide) (fun c15 => ?_) (fun c15 => ?_)
                  · rw [if_neg c15] at h
                    refine WP.iconst (v := 0) dX10_ofTwo_168 (by decide) ?_
                    cases h
                    exact WP.iret dX10_ofTwo_169 ⟨rfl, rfl⟩
                  · rw [if_pos c15] at h
                    refine WP.iconst (v := 1) dX10_ofTwo_164 (by decide) ?_
                    refine WP.goto (tgt := 169) dX10_ofTwo_165 (by decide) ?_
                    cases h
                    exact WP.iret dX10_ofTwo_169 ⟨rfl, rfl⟩
                · rw [if_neg c14] at h
                  refine WP.tbl (off := 68) (tgt := 170) dX10_ofTwo_102 (by
                      have n2 := lv_neT (k := 2) (a := 2) (fun z => c5 (z)) (by decide)
                      have n3 := lv_neT (k := 3) (a := 3) (fun z => c8 (z)) (by decide)
                      have n4 := lv_neT (k := 4) (a := 4) (fun z => c11 (z)) (by decide)
                      have n5 := lv_neT (k := 5) (a := 5) (fun z => c14 (z)) (by decide)
                      exact swT_def (by omega)) (by decide) ?_
                  refine WP.iload_n dX10_ofTwo_170 rfl rfl ?_
                  refine WP.iload_n dX10_ofTwo_171 rfl rfl ?_
                  refine WP.icmp_ge (tgt := 179) dX10_ofTwo_172 (by decide) (fun c16 => ?_) (fun c16 => ?_)
                  · rw [if_pos c16] at h
                    refine WP.iconst (v := 0) dX10_ofTwo_179 (by decide) ?_
                    cases h
                    exact WP.iret dX10_ofTwo_180 ⟨rfl, rfl⟩
                  · rw [if_neg c16] at h
                    refine WP.iconst (v := 1) dX10_ofTwo_175 (by decide) ?_
                    refine WP.goto (tgt := 180) dX10_ofTwo_176 (by decide) ?_
                    cases h
                    exact WP.iret dX10_ofTwo_180 ⟨rfl, rfl⟩
        · rw [if_pos c4] at h
          refine WP.ldc (v := (-2000000000)) dX10_ofTwo_98 wd_691 ?_
          cases h
          exact WP.iret dX10_ofTwo_100 ⟨rfl, rfl⟩
    · rw [if_pos c2] at h
      refine WP.iload_n dX10_ofTwo_43 rfl rfl ?_
      refine WP.ldc (v := (-2000000000)) dX10_ofTwo_44 wd_691 ?_
      refine WP.icmp_eq (tgt := 53) dX10_ofTwo_46 (by decide) (fun c17 => ?_) (fun c17 => ?_)
      · rw [if_pos c17] at h
        refine WP.fgt [false, true, true] rfl ?_
        exact tX10_ofTwo_53  h
      · rw [if_neg c17] at h
        refine WP.iload_n dX10_ofTwo_49 rfl rfl ?_
        refine WP.if_ne (tgt := 63) dX10_ofTwo_50 (by decide) (fun c18 => ?_) (fun c18 => ?_)
        · rw [if_neg c18] at h
          refine WP.iconst (v := 1) dX10_ofTwo_63 (by decide) ?_
          refine WP.goto (tgt := 85) dX10_ofTwo_64 (by decide) ?_
          cases h
          exact WP.iret dX10_ofTwo_85 ⟨rfl, rfl⟩
        · rw [if_pos c18] at h
          refine WP.fgt [false, true, true] rfl ?_
          exact tX10_ofTwo_53  h
  · rw [if_pos c1] at h
    refine WP.iload_n dX10_ofTwo_6 rfl rfl ?_
    refine WP.if_eq (tgt := 14) dX10_ofTwo_7 (by decide) (fun c19 => ?_) (fun c19 => ?_)
    · rw [if_pos c19] at h
      refine WP.iconst (v := 0) dX10_ofTwo_14 (by decide) ?_
      refine WP.goto (tgt := 36) dX10_ofTwo_15 (by decide) ?_
      cases h
      exact WP.iret dX10_ofTwo_36 ⟨rfl, rfl⟩
    · rw [if_neg c19] at h
      refine WP.iload_n dX10_ofTwo_10 rfl rfl ?_
      refine WP.if_ne (tgt := 18) dX10_ofTwo_11 (by decide) (fun c20 => ?_) (fun c20 => ?_)
      · rw [if_neg c20] at h
        refine WP.iload_n dX10_ofTwo_18 rfl rfl ?_
        refine WP.ldc (v := (-2000000000)) dX10_ofTwo_19 wd_691 ?_
        refine WP.icmp_eq (tgt := 30) dX10_ofTwo_21 (by decide) (fun c21 => ?_) (fun c21 => ?_)
        · rw [if_pos c21] at h
          refine WP.ldc (v := (-2000000000)) dX10_ofTwo_30 wd_691 ?_
          refine WP.goto (tgt := 36) dX10_ofTwo_32 (by decide) ?_
          cases h
          exact WP.iret dX10_ofTwo_36 ⟨rfl, rfl⟩
        · rw [if_neg c21] at h
          refine WP.iload_n dX10_ofTwo_24 rfl rfl ?_
          refine WP.ldc (v := (-2000000000)) dX10_ofTwo_25 wd_691 ?_
          refine WP.icmp_ne (tgt := 35) dX10_ofTwo_27 (by decide) (fun c22 => ?_) (fun c22 => ?_)
          · rw [if_neg c22] at h
            refine WP.iconst (v := 1) dX10_ofTwo_35 (by decide) ?_
            cases h
            exact WP.iret dX10_ofTwo_36 ⟨rfl, rfl⟩
          · rw [if_pos c22] at h
            refine WP.ldc (v := (-2000000000)) dX10_ofTwo_30 wd_691 ?_
            refine WP.goto (tgt := 36) dX10_ofTwo_32 (by decide) ?_
            cases h
            exact WP.iret dX10_ofTwo_36 ⟨rfl, rfl⟩
      · rw [if_pos c20] at h
        refine WP.iconst (v := 0) dX10_ofTwo_14 (by decide) ?_
        refine WP.goto (tgt := 36) dX10_ofTwo_15 (by decide) ?_
        cases h
        exact WP.iret dX10_ofTwo_36 ⟨rfl, rfl⟩
/-! X10_work -/
def rX10_work : Room := { frames := 2, cells := 0, slots := 0, locals := 43 }
def FX10_work (x1 : Int32) (M : Mm) : Option Mm :=
  (rdI M 74 50 x1).bind fun v1 => (if v1 = 0 then (rdI M 75 50 x1).bind fun v75 => (wrI M 87 50 x1 v75).bind fun M77 => some M77 else (if v1 = 1 then (rdI M 75 50 x1).bind fun v69 => (rdI M 86 12 v69).bind fun v71 => (wrI M 87 50 x1 v71).bind fun M73 => some M73 else (if v1 = 10 then (rdI M 75 50 x1).bind fun v60 => (rdI M 86 12 v60).bind fun v62 => (if v62 = (-2000000000) then (wrI M 87 50 x1 0).bind fun M67 => some M67 else (wrI M 87 50 x1 1).bind fun M65 => some M65) else (if v1 = 9 then (rdI M 75 50 x1).bind fun v44 => (rdI M 87 50 v44).bind fun v46 => (if v46 = (-2000000000) then (wrI M 87 50 x1 (-2000000000)).bind fun M58 => some M58 else (rdI M 75 50 x1).bind fun v49 => (rdI M 87 50 v49).bind fun v51 => (if v51 = 0 then (wrI M 87 50 x1 1).bind fun M56 => some M56 else (wrI M 87 50 x1 0).bind fun M54 => some M54)) else (if v1 = 11 then (rdI M 75 50 x1).bind fun v20 => (rdI M 87 50 v20).bind fun v22 => (if v22 = (-2000000000) then (wrI M 87 50 x1 (-2000000000)).bind fun M42 => some M42 else (rdI M 75 50 x1).bind fun v25 => (rdI M 87 50 v25).bind fun v27 => (if v27 = 0 then (rdI M 77 50 x1).bind fun v30 => (rdI M 87 50 v30).bind fun v32 => (wrI M 87 50 x1 v32).bind fun M34 => some M34 else (rdI M 76 50 x1).bind fun v36 => (rdI M 87 50 v36).bind fun v38 => (wrI M 87 50 x1 v38).bind fun M40 => some M40)) else (rdI M 75 50 x1).bind fun v8 => (rdI M 87 50 v8).bind fun v10 => (rdI M 76 50 x1).bind fun v12 => (rdI M 87 50 v12).bind fun v14 => (FX10_ofTwo v1 v10 v14 M).bind fun r17 => (wrI M 87 50 x1 r17).bind fun M18 => some M18)))))
theorem eFX10_work (x1 : Int32) (M : Mm) : FX10_work x1 M = (rdI M 74 50 x1).bind fun v1 => (if v1 = 0 then (rdI M 75 50 x1).bind fun v75 => (wrI M 87 50 x1 v75).bind fun M77 => some M77 else (if v1 = 1 then (rdI M 75 50 x1).bind fun v69 => (rdI M 86 12 v69).bind fun v71 => (wrI M 87 50 x1 v71).bind fun M73 => some M73 else (if v1 = 10 then (rdI M 75 50 x1).bind fun v60 => (rdI M 86 12 v60).bind fun v62 => (if v62 = (-2000000000) then (wrI M 87 50 x1 0).bind fun M67 => some M67 else (wrI M 87 50 x1 1).bind fun M65 => some M65) else (if v1 = 9 then (rdI M 75 50 x1).bind fun v44 => (rdI M 87 50 v44).bind fun v46 => (if v46 = (-2000000000) then (wrI M 87 50 x1 (-2000000000)).bind fun M58 => some M58 else (rdI M 75 50 x1).bind fun v49 => (rdI M 87 50 v49).bind fun v51 => (if v51 = 0 then (wrI M 87 50 x1 1).bind fun M56 => some M56 else (wrI M 87 50 x1 0).bind fun M54 => some M54)) else (if v1 = 11 then (rdI M 75 50 x1).bind fun v20 => (rdI M 87 50 v20).bind fun v22 => (if v22 = (-2000000000) then (wrI M 87 50 x1 (-2000000000)).bind fun M42 => some M42 else (rdI M 75 50 x1).bind fun v25 => (rdI M 87 50 v25).bind fun v27 => (if v27 = 0 then (rdI M 77 50 x1).bind fun v30 => (rdI M 87 50 v30).bind fun v32 => (wrI M 87 50 x1 v32).bind fun M34 => some M34 else (rdI M 76 50 x1).bind fun v36 => (rdI M 87 50 v36).bind fun v38 => (wrI M 87 50 x1 v38).bind fun M40 => some M40)) else (rdI M 75 50 x1).bind fun v8 => (rdI M 87 50 v8).bind fun v10 => (rdI M 76 50 x1).bind fun v12 => (rdI M 87 50 v12).bind fun v14 => (FX10_ofTwo v1 v10 v14 M).bind fun r17 => (wrI M 87 50 x1 r17).bind fun M18 => some M18))))) := rfl
set_option maxRecDepth 20000 in
theorem TX10_work {l : Launch} {G : va_G} {tc : Nat → ClassId} {D : Nat → Nat} {x1 : Int32} {M : Mm} {R : Mm} (h : FX10_work x1 M = some R) : WP l G tc D lay (fun _ => True) yX10_work.cls cX10_work 3 rX10_work (.code yX10_work cX10_work 3 none) 0 (entL 3 [.ref 69, .int x1]) [] M (RetQ cX10_work none (RQV R)) := by
  show WP l G tc D lay (fun _ => True) RX10 cX10_work 3 rX10_work (.code yX10_work cX10_work 3 none) 0 [some (.ref 69), some (.int x1), none] [] M (RetQ cX10_work none (RQV R))
  unfold FX10_work at h
  refine WP.aload_n dX10_work_0 rfl rfl ?_
  refine WP.getR (j := 6) dX10_work_1 rfl rfl in_X10 (by decide) wd_698 rfl ?_
  refine WP.iload_n dX10_work_4 rfl rfl ?_
  obtain ⟨v1, h2, h⟩ := Option.bind_eq_some_iff.mp h
  refine WP.ialdQ dX10_work_5 rfl h2 ?_
  refine WP.istore_n dX10_work_6 rfl (by decide) rfl rfl ?_
  refine WP.iload_n dX10_work_7 rfl rfl ?_
  refine WP.if_ne (tgt := 26) dX10_work_8 (by decide) (fun c3 => ?_) (fun c3 => ?_)
  · rw [if_neg c3] at h
    refine WP.iload_n dX10_work_26 rfl rfl ?_
    refine WP.iconst (v := 1) dX10_work_27 (by decide) ?_
    refine WP.icmp_ne (tgt := 51) dX10_work_28 (by decide) (fun c4 => ?_) (fun c4 => ?_)
    · rw [if_neg c4] at h
      refine WP.iload_n dX10_work_51 rfl rfl ?_
      refine WP.bipush (v := 10) dX10_work_52 (by decide) ?_
      refine WP.icmp_ne (tgt := 87) dX10_work_54 (by decide) (fun c5 => ?_) (fun c5 => ?_)
      · rw [if_neg c5] at h
        refine WP.iload_n dX10_work_87 rfl rfl ?_
        refine WP.bipush (v := 9) dX10_work_88 (by decide) ?_
        refine WP.icmp_ne (tgt := 142) dX10_work_90 (by decide) (fun c6 => ?_) (fun c6 => ?_)
        · rw [if_neg c6] at h
          refine WP.iload_n dX10_work_142 rfl rfl ?_
          refine WP.bipush (v := 11) dX10_work_143 (by decide) ?_
          refine WP.icmp_ne (tgt := 217) dX10_work_145 (by decide) (fun c7 => ?_) (fun c7 => ?_)
          · rw [if_neg c7] at h
            refine WP.aload_n dX10_work_217 rfl rfl ?_
            refine WP.getR (j := 21) dX10_work_218 rfl rfl in_X10 (by decide) wd_713 rfl ?_
            refine WP.iload_n dX10_work_221 rfl rfl ?_
            refine WP.iload_n dX10_work_222 rfl rfl ?_
            refine WP.aload_n dX10_work_223 rfl rfl ?_
            refine WP.getR (j := 21) dX10_work_224 rfl rfl in_X10 (by decide) wd_713 rfl ?_
            refine WP.aload_n dX10_work_227 rfl rfl ?_
            refine WP.getR (j := 7) dX10_work_228 rfl rfl in_X10 (by decide) wd_699 rfl ?_
            refine WP.iload_n dX10_work_231 rfl rfl ?_
            obtain ⟨v8, h9, h⟩ := Option.bind_eq_some_iff.mp h
            refine WP.ialdQ dX10_work_232 rfl h9 ?_
            obtain ⟨v10, h11, h⟩ := Option.bind_eq_some_iff.mp h
            refine WP.ialdQ dX10_work_233 rfl h11 ?_
            refine WP.aload_n dX10_work_234 rfl rfl ?_
            refine WP.getR (j := 21) dX10_work_235 rfl rfl in_X10 (by decide) wd_713 rfl ?_
            refine WP.aload_n dX10_work_238 rfl rfl ?_
            refine WP.getR (j := 8) dX10_work_239 rfl rfl in_X10 (by decide) wd_700 rfl ?_
            refine WP.iload_n dX10_work_242 rfl rfl ?_
            obtain ⟨v12, h13, h⟩ := Option.bind_eq_some_iff.mp h
            refine WP.ialdQ dX10_work_243 rfl h13 ?_
            obtain ⟨v14, h15, h⟩ := Option.bind_eq_some_iff.mp h
            refine WP.ialdQ dX10_work_244 rfl h15 ?_
            obtain ⟨r17, h16, h⟩ := Option.bind_eq_some_iff.mp h
            refine WP.callSI [.int v1, .int v10, .int v14] dX10_work_245 lk_X10_162 rfl (Nat.le_of_ble_eq_true rfl) (by decide) (Nat.le_of_ble_eq_true rfl) rfl (TX10_ofTwo h16) ?_
            obtain ⟨M18, h19, h⟩ := Option.bind_eq_some_iff.mp h
            refine WP.iastQ dX10_work_248 rfl h19 ?_
            cases h
            exact WP.vret dX10_work_249 ⟨rfl, rfl⟩
          · rw [if_pos c7] at h
            refine WP.aload_n dX10_work_148 rfl rfl ?_
            refine WP.getR (j := 21) dX10_work_149 rfl rfl in_X10 (by decide) wd_713 rfl ?_
            refine WP.iload_n dX10_work_152 rfl rfl ?_
            refine WP.aload_n dX10_work_153 rfl rfl ?_
            refine WP.getR (j := 21) dX10_work_154 rfl rfl in_X10 (by decide) wd_713 rfl ?_
            refine WP.aload_n dX10_work_157 rfl rfl ?_
            refine WP.getR (j := 7) dX10_work_158 rfl rfl in_X10 (by decide) wd_699 rfl ?_
            refine WP.iload_n dX10_work_161 rfl rfl ?_
            obtain ⟨v20, h21, h⟩ := Option.bind_eq_some_iff.mp h
            refine WP.ialdQ dX10_work_162 rfl h21 ?_
            obtain ⟨v22, h23, h⟩ := Option.bind_eq_some_iff.mp h
            refine WP.ialdQ dX10_work_163 rfl h23 ?_
            refine WP.ldc (v := (-2000000000)) dX10_work_164 wd_691 ?_
            refine WP.icmp_ne (tgt := 174) dX10_work_166 (by decide) (fun c24 => ?_) (fun c24 => ?_)
            · rw [if_neg c24] at h
              refine WP.aload_n dX10_work_174 rfl rfl ?_
              refine WP.getR (j := 21) dX10_work_175 rfl rfl in_X10 (by decide) wd_713 rfl ?_
              refine WP.aload_n dX10_work_178 rfl rfl ?_
              refine WP.getR (j := 7) dX10_work_179 rfl rfl in_X10 (by decide) wd_699 rfl ?_
              refine WP.iload_n dX10_work_182 rfl rfl ?_
              obtain ⟨v25, h26, h⟩ := Option.bind_eq_some_iff.mp h
              refine WP.ialdQ dX10_work_183 rfl h26 ?_
              obtain ⟨v27, h28, h⟩ := Option.bind_eq_some_iff.mp h
              refine WP.ialdQ dX10_work_184 rfl h28 ?_
              refine WP.if_eq (tgt := 202) dX10_work_185 (by decide) (fun c29 => ?_) (fun c29 => ?_)
              · rw [if_pos c29] at h
                refine WP.aload_n dX10_work_202 rfl rfl ?_
                refine WP.getR (j := 21) dX10_work_203 rfl rfl in_X10 (by decide) wd_713 rfl ?_
                refine WP.aload_n dX10_work_206 rfl rfl ?_
                refine WP.getR (j := 9) dX10_work_207 rfl rfl in_X10 (by decide) wd_701 rfl ?_
                refine WP.iload_n dX10_work_210 rfl rfl ?_
                obtain ⟨v30, h31, h⟩ := Option.bind_eq_some_iff.mp h
                refine WP.ialdQ dX10_work_211 rfl h31 ?_
                obtain ⟨v32, h33, h⟩ := Option.bind_eq_some_iff.mp h
                refine WP.ialdQ dX10_work_212 rfl h33 ?_
                obtain ⟨M34, h35, h⟩ := Option.bind_eq_some_iff.mp h
                refine WP.iastQ dX10_work_213 rfl h35 ?_
                refine WP.goto (tgt := 249) dX10_work_214 (by decide) ?_
                cases h
                exact WP.vret dX10_work_249 ⟨rfl, rfl⟩
              · rw [if_neg c29] at h
                refine WP.aload_n dX10_work_188 rfl rfl ?_
                refine WP.getR (j := 21) dX10_work_189 rfl rfl in_X10 (by decide) wd_713 rfl ?_
                refine WP.aload_n dX10_work_192 rfl rfl ?_
                refine WP.getR (j := 8) dX10_work_193 rfl rfl in_X10 (by decide) wd_700 rfl ?_
                refine WP.iload_n dX10_work_196 rfl rfl ?_
                obtain ⟨v36, h37, h⟩ := Option.bind_eq_some_iff.mp h
                refine WP.ialdQ dX10_work_197 rfl h37 ?_
                obtain ⟨v38, h39, h⟩ := Option.bind_eq_some_iff.mp h
                refine WP.ialdQ dX10_work_198 rfl h39 ?_
                refine WP.goto (tgt := 213) dX10_work_199 (by decide) ?_
                obtain ⟨M40, h41, h⟩ := Option.bind_eq_some_iff.mp h
                refine WP.iastQ dX10_work_213 rfl h41 ?_
                refine WP.goto (tgt := 249) dX10_work_214 (by decide) ?_
                cases h
                exact WP.vret dX10_work_249 ⟨rfl, rfl⟩
            · rw [if_pos c24] at h
              refine WP.ldc (v := (-2000000000)) dX10_work_169 wd_691 ?_
              refine WP.goto (tgt := 213) dX10_work_171 (by decide) ?_
              obtain ⟨M42, h43, h⟩ := Option.bind_eq_some_iff.mp h
              refine WP.iastQ dX10_work_213 rfl h43 ?_
              refine WP.goto (tgt := 249) dX10_work_214 (by decide) ?_
              cases h
              exact WP.vret dX10_work_249 ⟨rfl, rfl⟩
        · rw [if_pos c6] at h
          refine WP.aload_n dX10_work_93 rfl rfl ?_
          refine WP.getR (j := 21) dX10_work_94 rfl rfl in_X10 (by decide) wd_713 rfl ?_
          refine WP.iload_n dX10_work_97 rfl rfl ?_
          refine WP.aload_n dX10_work_98 rfl rfl ?_
          refine WP.getR (j := 21) dX10_work_99 rfl rfl in_X10 (by decide) wd_713 rfl ?_
          refine WP.aload_n dX10_work_102 rfl rfl ?_
          refine WP.getR (j := 7) dX10_work_103 rfl rfl in_X10 (by decide) wd_699 rfl ?_
          refine WP.iload_n dX10_work_106 rfl rfl ?_
          obtain ⟨v44, h45, h⟩ := Option.bind_eq_some_iff.mp h
          refine WP.ialdQ dX10_work_107 rfl h45 ?_
          obtain ⟨v46, h47, h⟩ := Option.bind_eq_some_iff.mp h
          refine WP.ialdQ dX10_work_108 rfl h47 ?_
          refine WP.ldc (v := (-2000000000)) dX10_work_109 wd_691 ?_
          refine WP.icmp_ne (tgt := 119) dX10_work_111 (by decide) (fun c48 => ?_) (fun c48 => ?_)
          · rw [if_neg c48] at h
            refine WP.aload_n dX10_work_119 rfl rfl ?_
            refine WP.getR (j := 21) dX10_work_120 rfl rfl in_X10 (by decide) wd_713 rfl ?_
            refine WP.aload_n dX10_work_123 rfl rfl ?_
            refine WP.getR (j := 7) dX10_work_124 rfl rfl in_X10 (by decide) wd_699 rfl ?_
            refine WP.iload_n dX10_work_127 rfl rfl ?_
            obtain ⟨v49, h50, h⟩ := Option.bind_eq_some_iff.mp h
            refine WP.ialdQ dX10_work_128 rfl h50 ?_
            obtain ⟨v51, h52, h⟩ := Option.bind_eq_some_iff.mp h
            refine WP.ialdQ dX10_work_129 rfl h52 ?_
            refine WP.if_ne (tgt := 137) dX10_work_130 (by decide) (fun c53 => ?_) (fun c53 => ?_)
            · rw [if_neg c53] at h
              refine WP.iconst (v := 0) dX10_work_137 (by decide) ?_
              obtain ⟨M54, h55, h⟩ := Option.bind_eq_some_iff.mp h
              refine WP.iastQ dX10_work_138 rfl h55 ?_
              refine WP.goto (tgt := 249) dX10_work_139 (by decide) ?_
              cases h
              exact WP.vret dX10_work_249 ⟨rfl, rfl⟩
            · rw [if_pos c53] at h
              refine WP.iconst (v := 1) dX10_work_133 (by decide) ?_
              refine WP.goto (tgt := 138) dX10_work_134 (by decide) ?_
              obtain ⟨M56, h57, h⟩ := Option.bind_eq_some_iff.mp h
              refine WP.iastQ dX10_work_138 rfl h57 ?_
              refine WP.goto (tgt := 249) dX10_work_139 (by decide) ?_
              cases h
              exact WP.vret dX10_work_249 ⟨rfl, rfl⟩
          · rw [if_pos c48] at h
            refine WP.ldc (v := (-2000000000)) dX10_work_114 wd_691 ?_
            refine WP.goto (tgt := 138) dX10_work_116 (by decide) ?_
            obtain ⟨M58, h59, h⟩ := Option.bind_eq_some_iff.mp h
            refine WP.iastQ dX10_work_138 rfl h59 ?_
            refine WP.goto (tgt := 249) dX10_work_139 (by decide) ?_
            cases h
            exact WP.vret dX10_work_249 ⟨rfl, rfl⟩
      · rw [if_pos c5] at h
        refine WP.aload_n dX10_work_57 rfl rfl ?_
        refine WP.getR (j := 21) dX10_work_58 rfl rfl in_X10 (by decide) wd_713 rfl ?_
        refine WP.iload_n dX10_work_61 rfl rfl ?_
        refine WP.aload_n dX10_work_62 rfl rfl ?_
        refine WP.getR (j := 20) dX10_work_63 rfl rfl in_X10 (by decide) wd_712 rfl ?_
        refine WP.aload_n dX10_work_66 rfl rfl ?_
        refine WP.getR (j := 7) dX10_work_67 rfl rfl in_X10 (by decide) wd_699 rfl ?_
        refine WP.iload_n dX10_work_70 rfl rfl ?_
        obtain ⟨v60, h61, h⟩ := Option.bind_eq_some_iff.mp h
        refine WP.ialdQ dX10_work_71 rfl h61 ?_
        obtain ⟨v62, h63, h⟩ := Option.bind_eq_some_iff.mp h
        refine WP.ialdQ dX10_work_72 rfl h63 ?_
        refine WP.ldc (v := (-2000000000)) dX10_work_73 wd_691 ?_
        refine WP.icmp_ne (tgt := 82) dX10_work_75 (by decide) (fun c64 => ?_) (fun c64 => ?_)
        · rw [if_neg c64] at h
          refine WP.iconst (v := 1) dX10_work_82 (by decide) ?_
          obtain ⟨M65, h66, h⟩ := Option.bind_eq_some_iff.mp h
          refine WP.iastQ dX10_work_83 rfl h66 ?_
          refine WP.goto (tgt := 249) dX10_work_84 (by decide) ?_
          cases h
          exact WP.vret dX10_work_249 ⟨rfl, rfl⟩
        · rw [if_pos c64] at h
          refine WP.iconst (v := 0) dX10_work_78 (by decide) ?_
          refine WP.goto (tgt := 83) dX10_work_79 (by decide) ?_
          obtain ⟨M67, h68, h⟩ := Option.bind_eq_some_iff.mp h
          refine WP.iastQ dX10_work_83 rfl h68 ?_
          refine WP.goto (tgt := 249) dX10_work_84 (by decide) ?_
          cases h
          exact WP.vret dX10_work_249 ⟨rfl, rfl⟩
    · rw [if_pos c4] at h
      refine WP.aload_n dX10_work_31 rfl rfl ?_
      refine WP.getR (j := 21) dX10_work_32 rfl rfl in_X10 (by decide) wd_713 rfl ?_
      refine WP.iload_n dX10_work_35 rfl rfl ?_
      refine WP.aload_n dX10_work_36 rfl rfl ?_
      refine WP.getR (j := 20) dX10_work_37 rfl rfl in_X10 (by decide) wd_712 rfl ?_
      refine WP.aload_n dX10_work_40 rfl rfl ?_
      refine WP.getR (j := 7) dX10_work_41 rfl rfl in_X10 (by decide) wd_699 rfl ?_
      refine WP.iload_n dX10_work_44 rfl rfl ?_
      obtain ⟨v69, h70, h⟩ := Option.bind_eq_some_iff.mp h
      refine WP.ialdQ dX10_work_45 rfl h70 ?_
      obtain ⟨v71, h72, h⟩ := Option.bind_eq_some_iff.mp h
      refine WP.ialdQ dX10_work_46 rfl h72 ?_
      obtain ⟨M73, h74, h⟩ := Option.bind_eq_some_iff.mp h
      refine WP.iastQ dX10_work_47 rfl h74 ?_
      refine WP.goto (tgt := 249) dX10_work_48 (by decide) ?_
      cases h
      exact WP.vret dX10_work_249 ⟨rfl, rfl⟩
  · rw [if_pos c3] at h
    refine WP.aload_n dX10_work_11 rfl rfl ?_
    refine WP.getR (j := 21) dX10_work_12 rfl rfl in_X10 (by decide) wd_713 rfl ?_
    refine WP.iload_n dX10_work_15 rfl rfl ?_
    refine WP.aload_n dX10_work_16 rfl rfl ?_
    refine WP.getR (j := 7) dX10_work_17 rfl rfl in_X10 (by decide) wd_699 rfl ?_
    refine WP.iload_n dX10_work_20 rfl rfl ?_
    obtain ⟨v75, h76, h⟩ := Option.bind_eq_some_iff.mp h
    refine WP.ialdQ dX10_work_21 rfl h76 ?_
    obtain ⟨M77, h78, h⟩ := Option.bind_eq_some_iff.mp h
    refine WP.iastQ dX10_work_22 rfl h78 ?_
    refine WP.goto (tgt := 249) dX10_work_23 (by decide) ?_
    cases h
    exact WP.vret dX10_work_249 ⟨rfl, rfl⟩
/-! X10_workAll -/
def rX10_workAll : Room := { frames := 3, cells := 0, slots := 0, locals := 65 }
def BX10_workAll_2 (N : Nat) (K2 : Int64 × Int32 × Mm → Option Mm) (q : Int64 × Int32 × Mm) : Option Mm :=
  (if (q.2.2.1 69 5) ≤ q.2.1 then some q.2.2 else (if (lg_cmp ((q.1 >>> (q.2.1.toInt64 &&& 63)) &&& 1) 1) = 0 then (FX10_work q.2.1 q.2.2).bind fun M4 => K2 (q.1, (q.2.1 + 1), M4) else K2 (q.1, (q.2.1 + 1), q.2.2)))
def FX10_workAll (N : Nat) (x1 : Int64) (M : Mm) : Option Mm :=
  lp (BX10_workAll_2 N) N (x1, 0, M)
theorem eBX10_workAll_2 (N : Nat) (K2 : Int64 × Int32 × Mm → Option Mm) (q : Int64 × Int32 × Mm) : BX10_workAll_2 N K2 q = (if (q.2.2.1 69 5) ≤ q.2.1 then some q.2.2 else (if (lg_cmp ((q.1 >>> (q.2.1.toInt64 &&& 63)) &&& 1) 1) = 0 then (FX10_work q.2.1 q.2.2).bind fun M4 => K2 (q.1, (q.2.1 + 1), M4) else K2 (q.1, (q.2.1 + 1), q.2.2))) := rfl
theorem eFX10_workAll (N : Nat) (x1 : Int64) (M : Mm) : FX10_workAll N x1 M = lp (BX10_workAll_2 N) N (x1, 0, M) := rfl
set_option maxRecDepth 20000 in
theorem tX10_workAll_2 {l : Launch} {G : va_G} {tc : Nat → ClassId} {D : Nat → Nat} {N : Nat} : ∀ (nn : Nat) (q : Int64 × Int32 × Mm) (R : Mm), lp (BX10_workAll_2 N) nn q = some R → WP l G tc D lay (fun _ => True) RX10 cX10_workAll 4 rX10_workAll (.code yX10_workAll cX10_workAll 4 none) 2 [some (.ref 69), some (.long q.1), none, some (.int q.2.1)] [] q.2.2 (RetQ cX10_workAll none (RQV R)) := by
  refine lp_ind (fun K2 hK2q q R h => ?_)
  have hK2 : ∀ (z0 : Int64) (z1 : Int32) (z2 : Mm) (R : Mm), K2 (z0, z1, z2) = some R → WP l G tc D lay (fun _ => True) RX10 cX10_workAll 4 rX10_workAll (.code yX10_workAll cX10_workAll 4 none) 2 [some (.ref 69), some (.long z0), none, some (.int z1)] [] z2 (RetQ cX10_workAll none (RQV R)) := fun z0 z1 z2 R hh => hK2q (z0, z1, z2) R hh
  unfold BX10_workAll_2 at h
  refine WP.iload_n dX10_workAll_2 rfl rfl ?_
  refine WP.aload_n dX10_workAll_3 rfl rfl ?_
  refine WP.getI (j := 5) dX10_workAll_4 rfl rfl in_X10 (by decide) wd_697 rfl ?_
  refine WP.icmp_ge (tgt := 31) dX10_workAll_7 (by decide) (fun c1 => ?_) (fun c1 => ?_)
  · rw [if_pos c1] at h
    cases h
    exact WP.vret dX10_workAll_31 ⟨rfl, rfl⟩
  · rw [if_neg c1] at h
    refine WP.lload_n dX10_workAll_10 rfl rfl ?_
    refine WP.iload_n dX10_workAll_11 rfl rfl ?_
    refine WP.lshr dX10_workAll_12 ?_
    refine WP.lconst (v := 1) dX10_workAll_13 (by decide) ?_
    refine WP.land dX10_workAll_14 ?_
    refine WP.lconst (v := 1) dX10_workAll_15 (by decide) ?_
    refine WP.lcmp dX10_workAll_16 ?_
    refine WP.if_ne (tgt := 25) dX10_workAll_17 (by decide) (fun c2 => ?_) (fun c2 => ?_)
    · rw [if_neg c2] at h
      refine WP.iinc (v := (q.2.1 + 1)) dX10_workAll_25 rfl rfl (by decide) rfl rfl ?_
      refine WP.goto (tgt := 2) dX10_workAll_28 (by decide) ?_
      refine WP.fgt [true, true, false, true] rfl ?_
      exact hK2 q.1 (q.2.1 + 1) q.2.2 _ h
    · rw [if_pos c2] at h
      refine WP.aload_n dX10_workAll_20 rfl rfl ?_
      refine WP.iload_n dX10_workAll_21 rfl rfl ?_
      obtain ⟨M4, h3, h⟩ := Option.bind_eq_some_iff.mp h
      refine WP.callVV [.int q.2.1] dX10_workAll_22 lk_X10_166 rfl rfl rfl (Nat.le_of_ble_eq_true rfl) (by decide) (Nat.le_of_ble_eq_true rfl) rfl (TX10_work h3) ?_
      refine WP.iinc (v := (q.2.1 + 1)) dX10_workAll_25 rfl rfl (by decide) rfl rfl ?_
      refine WP.goto (tgt := 2) dX10_workAll_28 (by decide) ?_
      refine WP.fgt [true, true, false, true] rfl ?_
      exact hK2 q.1 (q.2.1 + 1) M4 _ h
theorem uX10_workAll_2 {l : Launch} {G : va_G} {tc : Nat → ClassId} {D : Nat → Nat} {N : Nat} (nn : Nat) : ∀ (z0 : Int64) (z1 : Int32) (z2 : Mm) (R : Mm), lp (BX10_workAll_2 N) nn (z0, z1, z2) = some R → WP l G tc D lay (fun _ => True) RX10 cX10_workAll 4 rX10_workAll (.code yX10_workAll cX10_workAll 4 none) 2 [some (.ref 69), some (.long z0), none, some (.int z1)] [] z2 (RetQ cX10_workAll none (RQV R)) := fun z0 z1 z2 R hh => tX10_workAll_2  nn (z0, z1, z2) R hh
set_option maxRecDepth 20000 in
theorem TX10_workAll {l : Launch} {G : va_G} {tc : Nat → ClassId} {D : Nat → Nat} {N : Nat} {x1 : Int64} {M : Mm} {R : Mm} (h : FX10_workAll N x1 M = some R) : WP l G tc D lay (fun _ => True) yX10_workAll.cls cX10_workAll 4 rX10_workAll (.code yX10_workAll cX10_workAll 4 none) 0 (entL 4 [.ref 69, .long x1]) [] M (RetQ cX10_workAll none (RQV R)) := by
  show WP l G tc D lay (fun _ => True) RX10 cX10_workAll 4 rX10_workAll (.code yX10_workAll cX10_workAll 4 none) 0 [some (.ref 69), some (.long x1), none, none] [] M (RetQ cX10_workAll none (RQV R))
  unfold FX10_workAll at h
  refine WP.iconst (v := 0) dX10_workAll_0 (by decide) ?_
  refine WP.istore_n dX10_workAll_1 rfl (by decide) rfl rfl ?_
  refine WP.fgt [true, true, false, true] rfl ?_
  exact uX10_workAll_2  N x1 0 M _ h
/-! X10_isSo -/
def rX10_isSo : Room := { frames := 0, cells := 0, slots := 0, locals := 0 }
def FX10_isSo (x1 : Int32) (M : Mm) : Option Int32 :=
  (rdI M 87 50 x1).bind fun v1 => (if v1 = (-2000000000) then some 0 else (rdI M 87 50 x1).bind fun v4 => (if v4 = 0 then some 0 else some 1))
theorem eFX10_isSo (x1 : Int32) (M : Mm) : FX10_isSo x1 M = (rdI M 87 50 x1).bind fun v1 => (if v1 = (-2000000000) then some 0 else (rdI M 87 50 x1).bind fun v4 => (if v4 = 0 then some 0 else some 1)) := rfl
set_option maxRecDepth 20000 in
theorem TX10_isSo {l : Launch} {G : va_G} {tc : Nat → ClassId} {D : Nat → Nat} {x1 : Int32} {M : Mm} {R : Int32} (h : FX10_isSo x1 M = some R) : WP l G tc D lay (fun _ => True) yX10_isSo.cls cX10_isSo 2 rX10_isSo (.code yX10_isSo cX10_isSo 2 (some .boolean)) 0 (entL 2 [.ref 69, .int x1]) [] M (RetQ cX10_isSo (some .boolean) (RQI R M)) := by
  show WP l G tc D lay (fun _ => True) RX10 cX10_isSo 2 rX10_isSo (.code yX10_isSo cX10_isSo 2 (some .boolean)) 0 [some (.ref 69), some (.int x1)] [] M (RetQ cX10_isSo (some .boolean) (RQI R M))
  unfold FX10_isSo at h
  refine WP.aload_n dX10_isSo_0 rfl rfl ?_
  refine WP.getR (j := 21) dX10_isSo_1 rfl rfl in_X10 (by decide) wd_713 rfl ?_
  refine WP.iload_n dX10_isSo_4 rfl rfl ?_
  obtain ⟨v1, h2, h⟩ := Option.bind_eq_some_iff.mp h
  refine WP.ialdQ dX10_isSo_5 rfl h2 ?_
  refine WP.ldc (v := (-2000000000)) dX10_isSo_6 wd_691 ?_
  refine WP.icmp_eq (tgt := 24) dX10_isSo_8 (by decide) (fun c3 => ?_) (fun c3 => ?_)
  · rw [if_pos c3] at h
    refine WP.iconst (v := 0) dX10_isSo_24 (by decide) ?_
    cases h
    exact WP.zret dX10_isSo_25 (by decide) ⟨rfl, rfl⟩
  · rw [if_neg c3] at h
    refine WP.aload_n dX10_isSo_11 rfl rfl ?_
    refine WP.getR (j := 21) dX10_isSo_12 rfl rfl in_X10 (by decide) wd_713 rfl ?_
    refine WP.iload_n dX10_isSo_15 rfl rfl ?_
    obtain ⟨v4, h5, h⟩ := Option.bind_eq_some_iff.mp h
    refine WP.ialdQ dX10_isSo_16 rfl h5 ?_
    refine WP.if_eq (tgt := 24) dX10_isSo_17 (by decide) (fun c6 => ?_) (fun c6 => ?_)
    · rw [if_pos c6] at h
      refine WP.iconst (v := 0) dX10_isSo_24 (by decide) ?_
      cases h
      exact WP.zret dX10_isSo_25 (by decide) ⟨rfl, rfl⟩
    · rw [if_neg c6] at h
      refine WP.iconst (v := 1) dX10_isSo_20 (by decide) ?_
      refine WP.goto (tgt := 25) dX10_isSo_21 (by decide) ?_
      cases h
      exact WP.zret dX10_isSo_25 (by decide) ⟨rfl, rfl⟩
/-! X10_judge -/
def rX10_judge : Room := { frames := 4, cells := 0, slots := 0, locals := 88 }
def BX10_judge_128 (N : Nat) (a1 : Int32) (t1 : Int32) (t2 : Int32) (M : Mm) : Option Mm :=
  (wrI M 85 12 t1 t2).bind fun M1 => (rdI M1 84 12 a1).bind fun v3 => (if v3 = 0 then (wrI M1 86 12 a1 (-2000000000)).bind fun M6 => some M6 else (rdI M1 85 12 a1).bind fun v8 => (wrI M1 86 12 a1 v8).bind fun M10 => some M10)
def BX10_judge_117 (N : Nat) (a1 : Int32) (t1 : Int32) (M : Mm) : Option Mm :=
  BX10_judge_128 N a1 t1 (-2000000000) M
def BX10_judge_54 (N : Nat) (a1 : Int32) (a3 : Int32) (t1 : Int32) (t2 : Int32) (M : Mm) : Option Mm :=
  (wrZ M 84 12 t1 t2).bind fun M1 => (rdI M1 72 12 a1).bind fun v3 => (if v3 = 0 then (rdI M1 83 12 a1).bind fun v21 => BX10_judge_128 N a1 a1 v21 M1 else (if a3 < 0 then BX10_judge_117 N a1 a1 M1 else (rdI M1 87 50 a3).bind fun v7 => (if v7 = (-2000000000) then BX10_judge_117 N a1 a1 M1 else (rdI M1 87 50 a3).bind fun v10 => (rdI M1 70 12 a1).bind fun v12 => (rdI M1 71 12 a1).bind fun v14 => (FX10_in v10 v12 v14 M1).bind fun r17 => (if r17 = 0 then BX10_judge_117 N a1 a1 M1 else (rdI M1 87 50 a3).bind fun v19 => BX10_judge_128 N a1 a1 v19 M1))))
def BX10_judge_49 (N : Nat) (a1 : Int32) (a3 : Int32) (t1 : Int32) (M : Mm) : Option Mm :=
  BX10_judge_54 N a1 a3 t1 1 M
def FX10_judge (N : Nat) (x1 : Int32) (M : Mm) : Option Mm :=
  (rdL M 80 12 x1).bind fun v1 => (FX10_workAll N v1 M).bind fun M4 => (rdI M4 73 48 (((4 : Int32) * x1) + 0)).bind fun v5 => (rdI M4 73 48 (((4 : Int32) * x1) + 3)).bind fun v7 => (if v5 < 0 then BX10_judge_49 N x1 v7 x1 M4 else (FX10_isSo v5 M4).bind fun r11 => (if r11 = 0 then BX10_judge_54 N x1 v7 x1 0 M4 else BX10_judge_49 N x1 v7 x1 M4))
theorem eBX10_judge_128 (N : Nat) (a1 : Int32) (t1 : Int32) (t2 : Int32) (M : Mm) : BX10_judge_128 N a1 t1 t2 M = (wrI M 85 12 t1 t2).bind fun M1 => (rdI M1 84 12 a1).bind fun v3 => (if v3 = 0 then (wrI M1 86 12 a1 (-2000000000)).bind fun M6 => some M6 else (rdI M1 85 12 a1).bind fun v8 => (wrI M1 86 12 a1 v8).bind fun M10 => some M10) := rfl
theorem eBX10_judge_117 (N : Nat) (a1 : Int32) (t1 : Int32) (M : Mm) : BX10_judge_117 N a1 t1 M = BX10_judge_128 N a1 t1 (-2000000000) M := rfl
theorem eBX10_judge_54 (N : Nat) (a1 : Int32) (a3 : Int32) (t1 : Int32) (t2 : Int32) (M : Mm) : BX10_judge_54 N a1 a3 t1 t2 M = (wrZ M 84 12 t1 t2).bind fun M1 => (rdI M1 72 12 a1).bind fun v3 => (if v3 = 0 then (rdI M1 83 12 a1).bind fun v21 => BX10_judge_128 N a1 a1 v21 M1 else (if a3 < 0 then BX10_judge_117 N a1 a1 M1 else (rdI M1 87 50 a3).bind fun v7 => (if v7 = (-2000000000) then BX10_judge_117 N a1 a1 M1 else (rdI M1 87 50 a3).bind fun v10 => (rdI M1 70 12 a1).bind fun v12 => (rdI M1 71 12 a1).bind fun v14 => (FX10_in v10 v12 v14 M1).bind fun r17 => (if r17 = 0 then BX10_judge_117 N a1 a1 M1 else (rdI M1 87 50 a3).bind fun v19 => BX10_judge_128 N a1 a1 v19 M1)))) := rfl
theorem eBX10_judge_49 (N : Nat) (a1 : Int32) (a3 : Int32) (t1 : Int32) (M : Mm) : BX10_judge_49 N a1 a3 t1 M = BX10_judge_54 N a1 a3 t1 1 M := rfl
theorem eFX10_judge (N : Nat) (x1 : Int32) (M : Mm) : FX10_judge N x1 M = (rdL M 80 12 x1).bind fun v1 => (FX10_workAll N v1 M).bind fun M4 => (rdI M4 73 48 (((4 : Int32) * x1) + 0)).bind fun v5 => (rdI M4 73 48 (((4 : Int32) * x1) + 3)).bind fun v7 => (if v5 < 0 then BX10_judge_49 N x1 v7 x1 M4 else (FX10_isSo v5 M4).bind fun r11 => (if r11 = 0 then BX10_judge_54 N x1 v7 x1 0 M4 else BX10_judge_49 N x1 v7 x1 M4)) := rfl
set_option maxRecDepth 20000 in
theorem tX10_judge_128 {l : Launch} {G : va_G} {tc : Nat → ClassId} {D : Nat → Nat} {N : Nat} {a1 : Int32} {t1 : Int32} {t2 : Int32} {M : Mm} {R : Mm} (h : BX10_judge_128 N a1 t1 t2 M = some R) : WP l G tc D lay (fun _ => True) RX10 cX10_judge 4 rX10_judge (.code yX10_judge cX10_judge 4 none) 128 [some (.ref 69), some (.int a1), none, none] [.int t2, .int t1, .ref 85] M (RetQ cX10_judge none (RQV R)) := by
  unfold BX10_judge_128 at h
  obtain ⟨M1, h2, h⟩ := Option.bind_eq_some_iff.mp h
  refine WP.iastQ dX10_judge_128 rfl h2 ?_
  refine WP.aload_n dX10_judge_129 rfl rfl ?_
  refine WP.getR (j := 20) dX10_judge_130 rfl rfl in_X10 (by decide) wd_712 rfl ?_
  refine WP.iload_n dX10_judge_133 rfl rfl ?_
  refine WP.aload_n dX10_judge_134 rfl rfl ?_
  refine WP.getR (j := 18) dX10_judge_135 rfl rfl in_X10 (by decide) wd_710 rfl ?_
  refine WP.iload_n dX10_judge_138 rfl rfl ?_
  obtain ⟨v3, h4, h⟩ := Option.bind_eq_some_iff.mp h
  refine WP.zaldQ dX10_judge_139 rfl h4 ?_
  refine WP.if_eq (tgt := 152) dX10_judge_140 (by decide) (fun c5 => ?_) (fun c5 => ?_)
  · rw [if_pos c5] at h
    refine WP.ldc (v := (-2000000000)) dX10_judge_152 wd_691 ?_
    obtain ⟨M6, h7, h⟩ := Option.bind_eq_some_iff.mp h
    refine WP.iastQ dX10_judge_154 rfl h7 ?_
    cases h
    exact WP.vret dX10_judge_155 ⟨rfl, rfl⟩
  · rw [if_neg c5] at h
    refine WP.aload_n dX10_judge_143 rfl rfl ?_
    refine WP.getR (j := 19) dX10_judge_144 rfl rfl in_X10 (by decide) wd_711 rfl ?_
    refine WP.iload_n dX10_judge_147 rfl rfl ?_
    obtain ⟨v8, h9, h⟩ := Option.bind_eq_some_iff.mp h
    refine WP.ialdQ dX10_judge_148 rfl h9 ?_
    refine WP.goto (tgt := 154) dX10_judge_149 (by decide) ?_
    obtain ⟨M10, h11, h⟩ := Option.bind_eq_some_iff.mp h
    refine WP.iastQ dX10_judge_154 rfl h11 ?_
    cases h
    exact WP.vret dX10_judge_155 ⟨rfl, rfl⟩
set_option maxRecDepth 20000 in
theorem tX10_judge_117 {l : Launch} {G : va_G} {tc : Nat → ClassId} {D : Nat → Nat} {N : Nat} {a1 : Int32} {t1 : Int32} {M : Mm} {R : Mm} (h : BX10_judge_117 N a1 t1 M = some R) : WP l G tc D lay (fun _ => True) RX10 cX10_judge 4 rX10_judge (.code yX10_judge cX10_judge 4 none) 117 [some (.ref 69), some (.int a1), none, none] [.int t1, .ref 85] M (RetQ cX10_judge none (RQV R)) := by
  unfold BX10_judge_117 at h
  refine WP.ldc (v := (-2000000000)) dX10_judge_117 wd_691 ?_
  refine WP.goto (tgt := 128) dX10_judge_119 (by decide) ?_
  refine WP.fgt [true, true, false, false] rfl ?_
  exact tX10_judge_128  h
set_option maxRecDepth 20000 in
theorem tX10_judge_54 {l : Launch} {G : va_G} {tc : Nat → ClassId} {D : Nat → Nat} {N : Nat} {a1 : Int32} {a3 : Int32} {t1 : Int32} {t2 : Int32} {M : Mm} {R : Mm} (h : BX10_judge_54 N a1 a3 t1 t2 M = some R) : WP l G tc D lay (fun _ => True) RX10 cX10_judge 4 rX10_judge (.code yX10_judge cX10_judge 4 none) 54 [some (.ref 69), some (.int a1), none, some (.int a3)] [.int t2, .int t1, .ref 84] M (RetQ cX10_judge none (RQV R)) := by
  unfold BX10_judge_54 at h
  obtain ⟨M1, h2, h⟩ := Option.bind_eq_some_iff.mp h
  refine WP.zastQ dX10_judge_54 rfl h2 ?_
  refine WP.aload_n dX10_judge_55 rfl rfl ?_
  refine WP.getR (j := 19) dX10_judge_56 rfl rfl in_X10 (by decide) wd_711 rfl ?_
  refine WP.iload_n dX10_judge_59 rfl rfl ?_
  refine WP.aload_n dX10_judge_60 rfl rfl ?_
  refine WP.getR (j := 3) dX10_judge_61 rfl rfl in_X10 (by decide) wd_695 rfl ?_
  refine WP.iload_n dX10_judge_64 rfl rfl ?_
  obtain ⟨v3, h4, h⟩ := Option.bind_eq_some_iff.mp h
  refine WP.ialdQ dX10_judge_65 rfl h4 ?_
  refine WP.if_ne (tgt := 78) dX10_judge_66 (by decide) (fun c5 => ?_) (fun c5 => ?_)
  · rw [if_neg c5] at h
    refine WP.iload_n dX10_judge_78 rfl rfl ?_
    refine WP.if_lt (tgt := 117) dX10_judge_79 (by decide) (fun c6 => ?_) (fun c6 => ?_)
    · rw [if_pos c6] at h
      refine WP.fgt [true, true, false, false] rfl ?_
      exact tX10_judge_117  h
    · rw [if_neg c6] at h
      refine WP.aload_n dX10_judge_82 rfl rfl ?_
      refine WP.getR (j := 21) dX10_judge_83 rfl rfl in_X10 (by decide) wd_713 rfl ?_
      refine WP.iload_n dX10_judge_86 rfl rfl ?_
      obtain ⟨v7, h8, h⟩ := Option.bind_eq_some_iff.mp h
      refine WP.ialdQ dX10_judge_87 rfl h8 ?_
      refine WP.ldc (v := (-2000000000)) dX10_judge_88 wd_691 ?_
      refine WP.icmp_eq (tgt := 117) dX10_judge_90 (by decide) (fun c9 => ?_) (fun c9 => ?_)
      · rw [if_pos c9] at h
        refine WP.fgt [true, true, false, false] rfl ?_
        exact tX10_judge_117  h
      · rw [if_neg c9] at h
        refine WP.aload_n dX10_judge_93 rfl rfl ?_
        refine WP.getR (j := 21) dX10_judge_94 rfl rfl in_X10 (by decide) wd_713 rfl ?_
        refine WP.iload_n dX10_judge_97 rfl rfl ?_
        obtain ⟨v10, h11, h⟩ := Option.bind_eq_some_iff.mp h
        refine WP.ialdQ dX10_judge_98 rfl h11 ?_
        refine WP.aload_n dX10_judge_99 rfl rfl ?_
        refine WP.getR (j := 1) dX10_judge_100 rfl rfl in_X10 (by decide) wd_693 rfl ?_
        refine WP.iload_n dX10_judge_103 rfl rfl ?_
        obtain ⟨v12, h13, h⟩ := Option.bind_eq_some_iff.mp h
        refine WP.ialdQ dX10_judge_104 rfl h13 ?_
        refine WP.aload_n dX10_judge_105 rfl rfl ?_
        refine WP.getR (j := 2) dX10_judge_106 rfl rfl in_X10 (by decide) wd_694 rfl ?_
        refine WP.iload_n dX10_judge_109 rfl rfl ?_
        obtain ⟨v14, h15, h⟩ := Option.bind_eq_some_iff.mp h
        refine WP.ialdQ dX10_judge_110 rfl h15 ?_
        obtain ⟨r17, h16, h⟩ := Option.bind_eq_some_iff.mp h
        refine WP.callSI [.int v10, .int v12, .int v14] dX10_judge_111 lk_X10_99 rfl (Nat.le_of_ble_eq_true rfl) (by decide) (Nat.le_of_ble_eq_true rfl) rfl (TX10_in h16) ?_
        refine WP.if_ne (tgt := 122) dX10_judge_114 (by decide) (fun c18 => ?_) (fun c18 => ?_)
        · rw [if_neg c18] at h
          refine WP.aload_n dX10_judge_122 rfl rfl ?_
          refine WP.getR (j := 21) dX10_judge_123 rfl rfl in_X10 (by decide) wd_713 rfl ?_
          refine WP.iload_n dX10_judge_126 rfl rfl ?_
          obtain ⟨v19, h20, h⟩ := Option.bind_eq_some_iff.mp h
          refine WP.ialdQ dX10_judge_127 rfl h20 ?_
          refine WP.fgt [true, true, false, false] rfl ?_
          exact tX10_judge_128  h
        · rw [if_pos c18] at h
          refine WP.fgt [true, true, false, false] rfl ?_
          exact tX10_judge_117  h
  · rw [if_pos c5] at h
    refine WP.aload_n dX10_judge_69 rfl rfl ?_
    refine WP.getR (j := 17) dX10_judge_70 rfl rfl in_X10 (by decide) wd_709 rfl ?_
    refine WP.iload_n dX10_judge_73 rfl rfl ?_
    obtain ⟨v21, h22, h⟩ := Option.bind_eq_some_iff.mp h
    refine WP.ialdQ dX10_judge_74 rfl h22 ?_
    refine WP.goto (tgt := 128) dX10_judge_75 (by decide) ?_
    refine WP.fgt [true, true, false, false] rfl ?_
    exact tX10_judge_128  h
set_option maxRecDepth 20000 in
theorem tX10_judge_49 {l : Launch} {G : va_G} {tc : Nat → ClassId} {D : Nat → Nat} {N : Nat} {a1 : Int32} {a3 : Int32} {t1 : Int32} {M : Mm} {R : Mm} (h : BX10_judge_49 N a1 a3 t1 M = some R) : WP l G tc D lay (fun _ => True) RX10 cX10_judge 4 rX10_judge (.code yX10_judge cX10_judge 4 none) 49 [some (.ref 69), some (.int a1), none, some (.int a3)] [.int t1, .ref 84] M (RetQ cX10_judge none (RQV R)) := by
  unfold BX10_judge_49 at h
  refine WP.iconst (v := 1) dX10_judge_49 (by decide) ?_
  refine WP.goto (tgt := 54) dX10_judge_50 (by decide) ?_
  refine WP.fgt [true, true, false, true] rfl ?_
  exact tX10_judge_54  h
set_option maxRecDepth 20000 in
theorem TX10_judge {l : Launch} {G : va_G} {tc : Nat → ClassId} {D : Nat → Nat} {N : Nat} {x1 : Int32} {M : Mm} {R : Mm} (h : FX10_judge N x1 M = some R) : WP l G tc D lay (fun _ => True) yX10_judge.cls cX10_judge 4 rX10_judge (.code yX10_judge cX10_judge 4 none) 0 (entL 4 [.ref 69, .int x1]) [] M (RetQ cX10_judge none (RQV R)) := by
  show WP l G tc D lay (fun _ => True) RX10 cX10_judge 4 rX10_judge (.code yX10_judge cX10_judge 4 none) 0 [some (.ref 69), some (.int x1), none, none] [] M (RetQ cX10_judge none (RQV R))
  unfold FX10_judge at h
  refine WP.aload_n dX10_judge_0 rfl rfl ?_
  refine WP.aload_n dX10_judge_1 rfl rfl ?_
  refine WP.getR (j := 13) dX10_judge_2 rfl rfl in_X10 (by decide) wd_705 rfl ?_
  refine WP.iload_n dX10_judge_5 rfl rfl ?_
  obtain ⟨v1, h2, h⟩ := Option.bind_eq_some_iff.mp h
  refine WP.laldQ dX10_judge_6 rfl h2 ?_
  obtain ⟨M4, h3, h⟩ := Option.bind_eq_some_iff.mp h
  refine WP.callVV [.long v1] dX10_judge_7 lk_X10_169 rfl rfl rfl (Nat.le_of_ble_eq_true rfl) (by decide) (Nat.le_of_ble_eq_true rfl) rfl (TX10_workAll h3) ?_
  refine WP.aload_n dX10_judge_10 rfl rfl ?_
  refine WP.getR (j := 4) dX10_judge_11 rfl rfl in_X10 (by decide) wd_696 rfl ?_
  refine WP.iconst (v := 4) dX10_judge_14 (by decide) ?_
  refine WP.iload_n dX10_judge_15 rfl rfl ?_
  refine WP.imul dX10_judge_16 ?_
  refine WP.iconst (v := 0) dX10_judge_17 (by decide) ?_
  refine WP.iadd dX10_judge_18 ?_
  obtain ⟨v5, h6, h⟩ := Option.bind_eq_some_iff.mp h
  refine WP.ialdQ dX10_judge_19 rfl h6 ?_
  refine WP.istore_n dX10_judge_20 rfl (by decide) rfl rfl ?_
  refine WP.aload_n dX10_judge_21 rfl rfl ?_
  refine WP.getR (j := 4) dX10_judge_22 rfl rfl in_X10 (by decide) wd_696 rfl ?_
  refine WP.iconst (v := 4) dX10_judge_25 (by decide) ?_
  refine WP.iload_n dX10_judge_26 rfl rfl ?_
  refine WP.imul dX10_judge_27 ?_
  refine WP.iconst (v := 3) dX10_judge_28 (by decide) ?_
  refine WP.iadd dX10_judge_29 ?_
  obtain ⟨v7, h8, h⟩ := Option.bind_eq_some_iff.mp h
  refine WP.ialdQ dX10_judge_30 rfl h8 ?_
  refine WP.istore_n dX10_judge_31 rfl (by decide) rfl rfl ?_
  refine WP.aload_n dX10_judge_32 rfl rfl ?_
  refine WP.getR (j := 18) dX10_judge_33 rfl rfl in_X10 (by decide) wd_710 rfl ?_
  refine WP.iload_n dX10_judge_36 rfl rfl ?_
  refine WP.iload_n dX10_judge_37 rfl rfl ?_
  refine WP.if_lt (tgt := 49) dX10_judge_38 (by decide) (fun c9 => ?_) (fun c9 => ?_)
  · rw [if_pos c9] at h
    refine WP.fgt [true, true, false, true] rfl ?_
    exact tX10_judge_49  h
  · rw [if_neg c9] at h
    refine WP.aload_n dX10_judge_41 rfl rfl ?_
    refine WP.iload_n dX10_judge_42 rfl rfl ?_
    obtain ⟨r11, h10, h⟩ := Option.bind_eq_some_iff.mp h
    refine WP.callVI [.int v5] dX10_judge_43 lk_X10_173 rfl rfl rfl (Nat.le_of_ble_eq_true rfl) (by decide) (Nat.le_of_ble_eq_true rfl) rfl (TX10_isSo h10) ?_
    refine WP.if_eq (tgt := 53) dX10_judge_46 (by decide) (fun c12 => ?_) (fun c12 => ?_)
    · rw [if_pos c12] at h
      refine WP.iconst (v := 0) dX10_judge_53 (by decide) ?_
      refine WP.fgt [true, true, false, true] rfl ?_
      exact tX10_judge_54  h
    · rw [if_neg c12] at h
      refine WP.fgt [true, true, false, true] rfl ?_
      exact tX10_judge_49  h
/-! X10_layDraft -/
def rX10_layDraft : Room := { frames := 6, cells := 0, slots := 0, locals := 136 }
def BX10_layDraft_47 (N : Nat) (K47 : Int32 × Mm → Option Mm) (q : Int32 × Mm) : Option Mm :=
  (if (q.2.1 69 0) ≤ q.1 then (FX10_workAll N (-1) q.2).bind fun M3 => some M3 else (rdI q.2 81 12 q.1).bind fun v4 => (FX10_judge N v4 q.2).bind fun M7 => K47 ((q.1 + 1), M7))
def BX10_layDraft_6 (N : Nat) (K6 : Int32 × Int32 × Mm → Option Mm) (q : Int32 × Int32 × Mm) : Option Mm :=
  (if (q.2.2.1 69 0) ≤ q.2.1 then lp (BX10_layDraft_47 N) N (0, q.2.2) else (rdI q.2.2 88 48 (((12 : Int32) * q.1) + q.2.1)).bind fun v2 => (wrI q.2.2 83 12 q.2.1 v2).bind fun M4 => (wrI M4 86 12 q.2.1 (-2000000000)).bind fun M6 => K6 (q.1, (q.2.1 + 1), M6))
def FX10_layDraft (N : Nat) (x1 : Int32) (M : Mm) : Option Mm :=
  (FX10_arrange N M).bind fun M2 => lp (BX10_layDraft_6 N) N (x1, 0, M2)
theorem eBX10_layDraft_47 (N : Nat) (K47 : Int32 × Mm → Option Mm) (q : Int32 × Mm) : BX10_layDraft_47 N K47 q = (if (q.2.1 69 0) ≤ q.1 then (FX10_workAll N (-1) q.2).bind fun M3 => some M3 else (rdI q.2 81 12 q.1).bind fun v4 => (FX10_judge N v4 q.2).bind fun M7 => K47 ((q.1 + 1), M7)) := rfl
theorem eBX10_layDraft_6 (N : Nat) (K6 : Int32 × Int32 × Mm → Option Mm) (q : Int32 × Int32 × Mm) : BX10_layDraft_6 N K6 q = (if (q.2.2.1 69 0) ≤ q.2.1 then lp (BX10_layDraft_47 N) N (0, q.2.2) else (rdI q.2.2 88 48 (((12 : Int32) * q.1) + q.2.1)).bind fun v2 => (wrI q.2.2 83 12 q.2.1 v2).bind fun M4 => (wrI M4 86 12 q.2.1 (-2000000000)).bind fun M6 => K6 (q.1, (q.2.1 + 1), M6)) := rfl
theorem eFX10_layDraft (N : Nat) (x1 : Int32) (M : Mm) : FX10_layDraft N x1 M = (FX10_arrange N M).bind fun M2 => lp (BX10_layDraft_6 N) N (x1, 0, M2) := rfl
set_option maxRecDepth 20000 in
theorem tX10_layDraft_47 {l : Launch} {G : va_G} {tc : Nat → ClassId} {D : Nat → Nat} {N : Nat} : ∀ (nn : Nat) (q : Int32 × Mm) (R : Mm), lp (BX10_layDraft_47 N) nn q = some R → WP l G tc D lay (fun _ => True) RX10 cX10_layDraft 3 rX10_layDraft (.code yX10_layDraft cX10_layDraft 3 none) 47 [some (.ref 69), none, some (.int q.1)] [] q.2 (RetQ cX10_layDraft none (RQV R)) := by
  refine lp_ind (fun K47 hK47q q R h => ?_)
  have hK47 : ∀ (z0 : Int32) (z1 : Mm) (R : Mm), K47 (z0, z1) = some R → WP l G tc D lay (fun _ => True) RX10 cX10_layDraft 3 rX10_layDraft (.code yX10_layDraft cX10_layDraft 3 none) 47 [some (.ref 69), none, some (.int z0)] [] z1 (RetQ cX10_layDraft none (RQV R)) := fun z0 z1 R hh => hK47q (z0, z1) R hh
  unfold BX10_layDraft_47 at h
  refine WP.iload_n dX10_layDraft_47 rfl rfl ?_
  refine WP.aload_n dX10_layDraft_48 rfl rfl ?_
  refine WP.getI (j := 0) dX10_layDraft_49 rfl rfl in_X10 (by decide) wd_692 rfl ?_
  refine WP.icmp_ge (tgt := 71) dX10_layDraft_52 (by decide) (fun c1 => ?_) (fun c1 => ?_)
  · rw [if_pos c1] at h
    refine WP.aload_n dX10_layDraft_71 rfl rfl ?_
    refine WP.ldc2 (v := (-1)) dX10_layDraft_72 wd_921 ?_
    obtain ⟨M3, h2, h⟩ := Option.bind_eq_some_iff.mp h
    refine WP.callVV [.long (-1)] dX10_layDraft_75 lk_X10_169 rfl rfl rfl (Nat.le_of_ble_eq_true rfl) (by decide) (Nat.le_of_ble_eq_true rfl) rfl (TX10_workAll h2) ?_
    cases h
    exact WP.vret dX10_layDraft_78 ⟨rfl, rfl⟩
  · rw [if_neg c1] at h
    refine WP.aload_n dX10_layDraft_55 rfl rfl ?_
    refine WP.aload_n dX10_layDraft_56 rfl rfl ?_
    refine WP.getR (j := 14) dX10_layDraft_57 rfl rfl in_X10 (by decide) wd_706 rfl ?_
    refine WP.iload_n dX10_layDraft_60 rfl rfl ?_
    obtain ⟨v4, h5, h⟩ := Option.bind_eq_some_iff.mp h
    refine WP.ialdQ dX10_layDraft_61 rfl h5 ?_
    obtain ⟨M7, h6, h⟩ := Option.bind_eq_some_iff.mp h
    refine WP.callVV [.int v4] dX10_layDraft_62 lk_X10_176 rfl rfl rfl (Nat.le_of_ble_eq_true rfl) (by decide) (Nat.le_of_ble_eq_true rfl) rfl (TX10_judge h6) ?_
    refine WP.iinc (v := (q.1 + 1)) dX10_layDraft_65 rfl rfl (by decide) rfl rfl ?_
    refine WP.goto (tgt := 47) dX10_layDraft_68 (by decide) ?_
    refine WP.fgt [true, false, true] rfl ?_
    exact hK47 (q.1 + 1) M7 _ h
theorem uX10_layDraft_47 {l : Launch} {G : va_G} {tc : Nat → ClassId} {D : Nat → Nat} {N : Nat} (nn : Nat) : ∀ (z0 : Int32) (z1 : Mm) (R : Mm), lp (BX10_layDraft_47 N) nn (z0, z1) = some R → WP l G tc D lay (fun _ => True) RX10 cX10_layDraft 3 rX10_layDraft (.code yX10_layDraft cX10_layDraft 3 none) 47 [some (.ref 69), none, some (.int z0)] [] z1 (RetQ cX10_layDraft none (RQV R)) := fun z0 z1 R hh => tX10_layDraft_47  nn (z0, z1) R hh
set_option maxRecDepth 20000 in
theorem tX10_layDraft_6 {l : Launch} {G : va_G} {tc : Nat → ClassId} {D : Nat → Nat} {N : Nat} : ∀ (nn : Nat) (q : Int32 × Int32 × Mm) (R : Mm), lp (BX10_layDraft_6 N) nn q = some R → WP l G tc D lay (fun _ => True) RX10 cX10_layDraft 3 rX10_layDraft (.code yX10_layDraft cX10_layDraft 3 none) 6 [some (.ref 69), some (.int q.1), some (.int q.2.1)] [] q.2.2 (RetQ cX10_layDraft none (RQV R)) := by
  refine lp_ind (fun K6 hK6q q R h => ?_)
  have hK6 : ∀ (z0 : Int32) (z1 : Int32) (z2 : Mm) (R : Mm), K6 (z0, z1, z2) = some R → WP l G tc D lay (fun _ => True) RX10 cX10_layDraft 3 rX10_layDraft (.code yX10_layDraft cX10_layDraft 3 none) 6 [some (.ref 69), some (.int z0), some (.int z1)] [] z2 (RetQ cX10_layDraft none (RQV R)) := fun z0 z1 z2 R hh => hK6q (z0, z1, z2) R hh
  unfold BX10_layDraft_6 at h
  refine WP.iload_n dX10_layDraft_6 rfl rfl ?_
  refine WP.aload_n dX10_layDraft_7 rfl rfl ?_
  refine WP.getI (j := 0) dX10_layDraft_8 rfl rfl in_X10 (by decide) wd_692 rfl ?_
  refine WP.icmp_ge (tgt := 45) dX10_layDraft_11 (by decide) (fun c1 => ?_) (fun c1 => ?_)
  · rw [if_pos c1] at h
    refine WP.iconst (v := 0) dX10_layDraft_45 (by decide) ?_
    refine WP.istore_n dX10_layDraft_46 rfl (by decide) rfl rfl ?_
    refine WP.fgt [true, false, true] rfl ?_
    exact uX10_layDraft_47  N 0 q.2.2 _ h
  · rw [if_neg c1] at h
    refine WP.aload_n dX10_layDraft_14 rfl rfl ?_
    refine WP.getR (j := 17) dX10_layDraft_15 rfl rfl in_X10 (by decide) wd_709 rfl ?_
    refine WP.iload_n dX10_layDraft_18 rfl rfl ?_
    refine WP.aload_n dX10_layDraft_19 rfl rfl ?_
    refine WP.getR (j := 22) dX10_layDraft_20 rfl rfl in_X10 (by decide) wd_714 rfl ?_
    refine WP.bipush (v := 12) dX10_layDraft_23 (by decide) ?_
    refine WP.iload_n dX10_layDraft_25 rfl rfl ?_
    refine WP.imul dX10_layDraft_26 ?_
    refine WP.iload_n dX10_layDraft_27 rfl rfl ?_
    refine WP.iadd dX10_layDraft_28 ?_
    obtain ⟨v2, h3, h⟩ := Option.bind_eq_some_iff.mp h
    refine WP.ialdQ dX10_layDraft_29 rfl h3 ?_
    obtain ⟨M4, h5, h⟩ := Option.bind_eq_some_iff.mp h
    refine WP.iastQ dX10_layDraft_30 rfl h5 ?_
    refine WP.aload_n dX10_layDraft_31 rfl rfl ?_
    refine WP.getR (j := 20) dX10_layDraft_32 rfl rfl in_X10 (by decide) wd_712 rfl ?_
    refine WP.iload_n dX10_layDraft_35 rfl rfl ?_
    refine WP.ldc (v := (-2000000000)) dX10_layDraft_36 wd_691 ?_
    obtain ⟨M6, h7, h⟩ := Option.bind_eq_some_iff.mp h
    refine WP.iastQ dX10_layDraft_38 rfl h7 ?_
    refine WP.iinc (v := (q.2.1 + 1)) dX10_layDraft_39 rfl rfl (by decide) rfl rfl ?_
    refine WP.goto (tgt := 6) dX10_layDraft_42 (by decide) ?_
    refine WP.fgt [true, true, true] rfl ?_
    exact hK6 q.1 (q.2.1 + 1) M6 _ h
theorem uX10_layDraft_6 {l : Launch} {G : va_G} {tc : Nat → ClassId} {D : Nat → Nat} {N : Nat} (nn : Nat) : ∀ (z0 : Int32) (z1 : Int32) (z2 : Mm) (R : Mm), lp (BX10_layDraft_6 N) nn (z0, z1, z2) = some R → WP l G tc D lay (fun _ => True) RX10 cX10_layDraft 3 rX10_layDraft (.code yX10_layDraft cX10_layDraft 3 none) 6 [some (.ref 69), some (.int z0), some (.int z1)] [] z2 (RetQ cX10_layDraft none (RQV R)) := fun z0 z1 z2 R hh => tX10_layDraft_6  nn (z0, z1, z2) R hh
set_option maxRecDepth 20000 in
theorem TX10_layDraft {l : Launch} {G : va_G} {tc : Nat → ClassId} {D : Nat → Nat} {N : Nat} {x1 : Int32} {M : Mm} {R : Mm} (h : FX10_layDraft N x1 M = some R) : WP l G tc D lay (fun _ => True) yX10_layDraft.cls cX10_layDraft 3 rX10_layDraft (.code yX10_layDraft cX10_layDraft 3 none) 0 (entL 3 [.ref 69, .int x1]) [] M (RetQ cX10_layDraft none (RQV R)) := by
  show WP l G tc D lay (fun _ => True) RX10 cX10_layDraft 3 rX10_layDraft (.code yX10_layDraft cX10_layDraft 3 none) 0 [some (.ref 69), some (.int x1), none] [] M (RetQ cX10_layDraft none (RQV R))
  unfold FX10_layDraft at h
  refine WP.aload_n dX10_layDraft_0 rfl rfl ?_
  obtain ⟨M2, h1, h⟩ := Option.bind_eq_some_iff.mp h
  refine WP.callVV [] dX10_layDraft_1 lk_X10_149 rfl rfl rfl (Nat.le_of_ble_eq_true rfl) (by decide) (Nat.le_of_ble_eq_true rfl) rfl (TX10_arrange h1) ?_
  refine WP.iconst (v := 0) dX10_layDraft_4 (by decide) ?_
  refine WP.istore_n dX10_layDraft_5 rfl (by decide) rfl rfl ?_
  refine WP.fgt [true, true, true] rfl ?_
  exact uX10_layDraft_6  N x1 0 M2 _ h
/-! X10_noDraft -/
def rX10_noDraft : Room := { frames := 1, cells := 0, slots := 0, locals := 22 }
def FX10_noDraft (x1 : Int32) (M : Mm) : Option Int32 :=
  (FX10_in x1 0 3 M).bind fun r2 => (if r2 = 0 then some 1 else some 0)
theorem eFX10_noDraft (x1 : Int32) (M : Mm) : FX10_noDraft x1 M = (FX10_in x1 0 3 M).bind fun r2 => (if r2 = 0 then some 1 else some 0) := rfl
set_option maxRecDepth 20000 in
theorem TX10_noDraft {l : Launch} {G : va_G} {tc : Nat → ClassId} {D : Nat → Nat} {x1 : Int32} {M : Mm} {R : Int32} (h : FX10_noDraft x1 M = some R) : WP l G tc D lay (fun _ => True) yX10_noDraft.cls cX10_noDraft 1 rX10_noDraft (.code yX10_noDraft cX10_noDraft 1 (some .boolean)) 0 (entL 1 [.int x1]) [] M (RetQ cX10_noDraft (some .boolean) (RQI R M)) := by
  show WP l G tc D lay (fun _ => True) RX10 cX10_noDraft 1 rX10_noDraft (.code yX10_noDraft cX10_noDraft 1 (some .boolean)) 0 [some (.int x1)] [] M (RetQ cX10_noDraft (some .boolean) (RQI R M))
  unfold FX10_noDraft at h
  refine WP.iload_n dX10_noDraft_0 rfl rfl ?_
  refine WP.iconst (v := 0) dX10_noDraft_1 (by decide) ?_
  refine WP.iconst (v := 3) dX10_noDraft_2 (by decide) ?_
  obtain ⟨r2, h1, h⟩ := Option.bind_eq_some_iff.mp h
  refine WP.callSI [.int x1, .int 0, .int 3] dX10_noDraft_3 lk_X10_99 rfl (Nat.le_of_ble_eq_true rfl) (by decide) (Nat.le_of_ble_eq_true rfl) rfl (TX10_in h1) ?_
  refine WP.if_ne (tgt := 13) dX10_noDraft_6 (by decide) (fun c3 => ?_) (fun c3 => ?_)
  · rw [if_neg c3] at h
    refine WP.iconst (v := 0) dX10_noDraft_13 (by decide) ?_
    cases h
    exact WP.zret dX10_noDraft_14 (by decide) ⟨rfl, rfl⟩
  · rw [if_pos c3] at h
    refine WP.iconst (v := 1) dX10_noDraft_9 (by decide) ?_
    refine WP.goto (tgt := 14) dX10_noDraft_10 (by decide) ?_
    cases h
    exact WP.zret dX10_noDraft_14 (by decide) ⟨rfl, rfl⟩
