/-! X9_field -/
def rX9_field : Room := { frames := 3, cells := 0, slots := 0, locals := 66 }
def BX9_field_53 (N : Nat) (t1 : Int32) (t2 : Int32) (t3 : Int32) (M : Mm) : Option (Int32 × Mm) :=
  (FX0_add N t1 t2 t3 M).bind fun p2 => (FX2_arrange N p2.2).bind fun M4 => some (p2.1, M4)
def BX9_field_34 (N : Nat) (a1 : Int32) (a2 : Int32) (a3 : Int32) (M : Mm) : Option (Int32 × Mm) :=
  (if a3 = 1 then BX9_field_53 N a1 a2 1 M else BX9_field_53 N a1 a2 0 M)
def FX9_field (N : Nat) (x1 : Int32) (x2 : Int32) (x3 : Int32) (M : Mm) : Option (Int32 × Mm) :=
  (if x1 < (-1000) then some ((-2), M) else (if 1000 < x2 then some ((-2), M) else (if x1 ≤ x2 then (if x3 = 0 then BX9_field_34 N x1 x2 x3 M else (if x3 = 1 then BX9_field_34 N x1 x2 x3 M else some ((-2), M))) else some ((-2), M))))
theorem eBX9_field_53 (N : Nat) (t1 : Int32) (t2 : Int32) (t3 : Int32) (M : Mm) : BX9_field_53 N t1 t2 t3 M = (FX0_add N t1 t2 t3 M).bind fun p2 => (FX2_arrange N p2.2).bind fun M4 => some (p2.1, M4) := rfl
theorem eBX9_field_34 (N : Nat) (a1 : Int32) (a2 : Int32) (a3 : Int32) (M : Mm) : BX9_field_34 N a1 a2 a3 M = (if a3 = 1 then BX9_field_53 N a1 a2 1 M else BX9_field_53 N a1 a2 0 M) := rfl
theorem eFX9_field (N : Nat) (x1 : Int32) (x2 : Int32) (x3 : Int32) (M : Mm) : FX9_field N x1 x2 x3 M = (if x1 < (-1000) then some ((-2), M) else (if 1000 < x2 then some ((-2), M) else (if x1 ≤ x2 then (if x3 = 0 then BX9_field_34 N x1 x2 x3 M else (if x3 = 1 then BX9_field_34 N x1 x2 x3 M else some ((-2), M))) else some ((-2), M)))) := rfl
set_option maxRecDepth 20000 in
theorem tX9_field_53 {l : Launch} {G : va_G} {tc : Nat → ClassId} {D : Nat → Nat} {N : Nat} {t1 : Int32} {t2 : Int32} {t3 : Int32} {M : Mm} {R : (Int32 × Mm)} (h : BX9_field_53 N t1 t2 t3 M = some R) : WP l G tc D lay (fun _ => True) RX9 cX9_field 5 rX9_field (.code yX9_field cX9_field 5 (some .int)) 53 [some (.ref 0), none, none, none, none] [.int t3, .int t2, .int t1, .ref 2] M (RetQ cX9_field (some .int) (RQI R.1 R.2)) := by
  unfold BX9_field_53 at h
  obtain ⟨p2, h1, h⟩ := Option.bind_eq_some_iff.mp h
  refine WP.callVI [.int t1, .int t2, .int t3] dX9_field_53 lk_X9_74 rfl rfl rfl (Nat.le_of_ble_eq_true rfl) (by decide) (Nat.le_of_ble_eq_true rfl) rfl (TX0_add h1) ?_
  refine WP.istore dX9_field_56 (by decide) rfl rfl ?_
  refine WP.aload_n dX9_field_58 rfl rfl ?_
  refine WP.getR (j := 0) dX9_field_59 rfl rfl in_X9 (by decide) wd_311 rfl ?_
  obtain ⟨M4, h3, h⟩ := Option.bind_eq_some_iff.mp h
  refine WP.callVV [] dX9_field_62 lk_X9_80 rfl rfl rfl (Nat.le_of_ble_eq_true rfl) (by decide) (Nat.le_of_ble_eq_true rfl) rfl (TX2_arrange h3) ?_
  refine WP.iload dX9_field_65 rfl ?_
  cases h
  exact WP.iret dX9_field_67 ⟨rfl, rfl⟩
set_option maxRecDepth 20000 in
theorem tX9_field_34 {l : Launch} {G : va_G} {tc : Nat → ClassId} {D : Nat → Nat} {N : Nat} {a1 : Int32} {a2 : Int32} {a3 : Int32} {M : Mm} {R : (Int32 × Mm)} (h : BX9_field_34 N a1 a2 a3 M = some R) : WP l G tc D lay (fun _ => True) RX9 cX9_field 5 rX9_field (.code yX9_field cX9_field 5 (some .int)) 34 [some (.ref 0), some (.int a1), some (.int a2), some (.int a3), none] [] M (RetQ cX9_field (some .int) (RQI R.1 R.2)) := by
  unfold BX9_field_34 at h
  refine WP.aload_n dX9_field_34 rfl rfl ?_
  refine WP.getR (j := 0) dX9_field_35 rfl rfl in_X9 (by decide) wd_311 rfl ?_
  refine WP.getR (j := 0) dX9_field_38 rfl rfl in_X2 (by decide) wd_161 rfl ?_
  refine WP.iload_n dX9_field_41 rfl rfl ?_
  refine WP.iload_n dX9_field_42 rfl rfl ?_
  refine WP.iload_n dX9_field_43 rfl rfl ?_
  refine WP.iconst (v := 1) dX9_field_44 (by decide) ?_
  refine WP.icmp_ne (tgt := 52) dX9_field_45 (by decide) (fun c1 => ?_) (fun c1 => ?_)
  · rw [if_neg c1] at h
    refine WP.iconst (v := 0) dX9_field_52 (by decide) ?_
    refine WP.fgt [true, false, false, false, false] rfl ?_
    exact tX9_field_53  h
  · rw [if_pos c1] at h
    refine WP.iconst (v := 1) dX9_field_48 (by decide) ?_
    refine WP.goto (tgt := 53) dX9_field_49 (by decide) ?_
    refine WP.fgt [true, false, false, false, false] rfl ?_
    exact tX9_field_53  h
set_option maxRecDepth 20000 in
theorem TX9_field {l : Launch} {G : va_G} {tc : Nat → ClassId} {D : Nat → Nat} {N : Nat} {x1 : Int32} {x2 : Int32} {x3 : Int32} {M : Mm} {R : (Int32 × Mm)} (h : FX9_field N x1 x2 x3 M = some R) : WP l G tc D lay (fun _ => True) yX9_field.cls cX9_field 5 rX9_field (.code yX9_field cX9_field 5 (some .int)) 0 (entL 5 [.ref 0, .int x1, .int x2, .int x3]) [] M (RetQ cX9_field (some .int) (RQI R.1 R.2)) := by
  show WP l G tc D lay (fun _ => True) RX9 cX9_field 5 rX9_field (.code yX9_field cX9_field 5 (some .int)) 0 [some (.ref 0), some (.int x1), some (.int x2), some (.int x3), none] [] M (RetQ cX9_field (some .int) (RQI R.1 R.2))
  unfold FX9_field at h
  refine WP.iload_n dX9_field_0 rfl rfl ?_
  refine WP.sipush (v := (-1000)) dX9_field_1 (by decide) ?_
  refine WP.icmp_lt (tgt := 19) dX9_field_4 (by decide) (fun c1 => ?_) (fun c1 => ?_)
  · rw [if_pos c1] at h
    refine WP.bipush (v := (-2)) dX9_field_19 (by decide) ?_
    cases h
    exact WP.iret dX9_field_21 ⟨rfl, rfl⟩
  · rw [if_neg c1] at h
    refine WP.iload_n dX9_field_7 rfl rfl ?_
    refine WP.sipush (v := 1000) dX9_field_8 (by decide) ?_
    refine WP.icmp_gt (tgt := 19) dX9_field_11 (by decide) (fun c2 => ?_) (fun c2 => ?_)
    · rw [if_pos c2] at h
      refine WP.bipush (v := (-2)) dX9_field_19 (by decide) ?_
      cases h
      exact WP.iret dX9_field_21 ⟨rfl, rfl⟩
    · rw [if_neg c2] at h
      refine WP.iload_n dX9_field_14 rfl rfl ?_
      refine WP.iload_n dX9_field_15 rfl rfl ?_
      refine WP.icmp_le (tgt := 22) dX9_field_16 (by decide) (fun c3 => ?_) (fun c3 => ?_)
      · rw [if_pos c3] at h
        refine WP.iload_n dX9_field_22 rfl rfl ?_
        refine WP.if_eq (tgt := 34) dX9_field_23 (by decide) (fun c4 => ?_) (fun c4 => ?_)
        · rw [if_pos c4] at h
          refine WP.fgt [true, true, true, true, false] rfl ?_
          exact tX9_field_34  h
        · rw [if_neg c4] at h
          refine WP.iload_n dX9_field_26 rfl rfl ?_
          refine WP.iconst (v := 1) dX9_field_27 (by decide) ?_
          refine WP.icmp_eq (tgt := 34) dX9_field_28 (by decide) (fun c5 => ?_) (fun c5 => ?_)
          · rw [if_pos c5] at h
            refine WP.fgt [true, true, true, true, false] rfl ?_
            exact tX9_field_34  h
          · rw [if_neg c5] at h
            refine WP.bipush (v := (-2)) dX9_field_31 (by decide) ?_
            cases h
            exact WP.iret dX9_field_33 ⟨rfl, rfl⟩
      · rw [if_neg c3] at h
        refine WP.bipush (v := (-2)) dX9_field_19 (by decide) ?_
        cases h
        exact WP.iret dX9_field_21 ⟨rfl, rfl⟩
/-! X9_knowsOperands -/
def rX9_knowsOperands : Room := { frames := 1, cells := 0, slots := 0, locals := 21 }
def FX9_knowsOperands (x1 : Int32) (x2 : Int32) (x3 : Int32) (x4 : Int32) (M : Mm) : Option Int32 :=
  (if x1 = 1 ∨ x1 = 10 then (FX0_has x2 M).bind fun r3 => (gdB r3).bind fun g4 => some g4 else (if x1 = 2 ∨ x1 = 3 ∨ x1 = 4 ∨ x1 = 5 ∨ x1 = 6 ∨ x1 = 7 ∨ x1 = 8 then (FX3_has x2 M).bind fun r8 => (if r8 = 0 then some 0 else (FX3_has x3 M).bind fun r11 => (if r11 = 0 then some 0 else some 1)) else (if x1 = 9 then (FX3_has x2 M).bind fun r15 => (gdB r15).bind fun g16 => some g16 else (if x1 = 11 then (FX3_has x2 M).bind fun r20 => (if r20 = 0 then some 0 else (FX3_has x3 M).bind fun r23 => (if r23 = 0 then some 0 else (FX3_has x4 M).bind fun r26 => (if r26 = 0 then some 0 else some 1))) else some 1))))
theorem eFX9_knowsOperands (x1 : Int32) (x2 : Int32) (x3 : Int32) (x4 : Int32) (M : Mm) : FX9_knowsOperands x1 x2 x3 x4 M = (if x1 = 1 ∨ x1 = 10 then (FX0_has x2 M).bind fun r3 => (gdB r3).bind fun g4 => some g4 else (if x1 = 2 ∨ x1 = 3 ∨ x1 = 4 ∨ x1 = 5 ∨ x1 = 6 ∨ x1 = 7 ∨ x1 = 8 then (FX3_has x2 M).bind fun r8 => (if r8 = 0 then some 0 else (FX3_has x3 M).bind fun r11 => (if r11 = 0 then some 0 else some 1)) else (if x1 = 9 then (FX3_has x2 M).bind fun r15 => (gdB r15).bind fun g16 => some g16 else (if x1 = 11 then (FX3_has x2 M).bind fun r20 => (if r20 = 0 then some 0 else (FX3_has x3 M).bind fun r23 => (if r23 = 0 then some 0 else (FX3_has x4 M).bind fun r26 => (if r26 = 0 then some 0 else some 1))) else some 1)))) := rfl
set_option maxRecDepth 20000 in
theorem TX9_knowsOperands {l : Launch} {G : va_G} {tc : Nat → ClassId} {D : Nat → Nat} {x1 : Int32} {x2 : Int32} {x3 : Int32} {x4 : Int32} {M : Mm} {R : Int32} (h : FX9_knowsOperands x1 x2 x3 x4 M = some R) : WP l G tc D lay (fun _ => True) yX9_knowsOperands.cls cX9_knowsOperands 5 rX9_knowsOperands (.code yX9_knowsOperands cX9_knowsOperands 5 (some .boolean)) 0 (entL 5 [.ref 0, .int x1, .int x2, .int x3, .int x4]) [] M (RetQ cX9_knowsOperands (some .boolean) (RQI R M)) := by
  show WP l G tc D lay (fun _ => True) RX9 cX9_knowsOperands 5 rX9_knowsOperands (.code yX9_knowsOperands cX9_knowsOperands 5 (some .boolean)) 0 [some (.ref 0), some (.int x1), some (.int x2), some (.int x3), some (.int x4)] [] M (RetQ cX9_knowsOperands (some .boolean) (RQI R M))
  unfold FX9_knowsOperands at h
  refine WP.iload_n dX9_knowsOperands_0 rfl rfl ?_
  by_cases c1 : x1 = 1 ∨ x1 = 10
  · rw [if_pos c1] at h
    refine WP.tbl (off := 59) (tgt := 60) dX9_knowsOperands_1 (by rcases c1 with c1 | c1 <;> (rw [c1]; decide)) (by decide) ?_
    refine WP.aload_n dX9_knowsOperands_60 rfl rfl ?_
    refine WP.getR (j := 0) dX9_knowsOperands_61 rfl rfl in_X9 (by decide) wd_311 rfl ?_
    refine WP.getR (j := 0) dX9_knowsOperands_64 rfl rfl in_X2 (by decide) wd_161 rfl ?_
    refine WP.iload_n dX9_knowsOperands_67 rfl rfl ?_
    obtain ⟨r3, h2, h⟩ := Option.bind_eq_some_iff.mp h
    refine WP.callVI [.int x2] dX9_knowsOperands_68 lk_X9_98 rfl rfl rfl (Nat.le_of_ble_eq_true rfl) (by decide) (Nat.le_of_ble_eq_true rfl) rfl (TX0_has h2) ?_
    obtain ⟨g4, h5, h⟩ := Option.bind_eq_some_iff.mp h
    obtain ⟨rfl, h5⟩ := gdB_ok h5
    cases h
    exact WP.zret dX9_knowsOperands_71 h5 ⟨rfl, rfl⟩
  · rw [if_neg c1] at h
    by_cases c6 : x1 = 2 ∨ x1 = 3 ∨ x1 = 4 ∨ x1 = 5 ∨ x1 = 6 ∨ x1 = 7 ∨ x1 = 8
    · rw [if_pos c6] at h
      refine WP.tbl (off := 71) (tgt := 72) dX9_knowsOperands_1 (by rcases c6 with c6 | c6 | c6 | c6 | c6 | c6 | c6 <;> (rw [c6]; decide)) (by decide) ?_
      refine WP.aload_n dX9_knowsOperands_72 rfl rfl ?_
      refine WP.getR (j := 0) dX9_knowsOperands_73 rfl rfl in_X9 (by decide) wd_311 rfl ?_
      refine WP.getR (j := 1) dX9_knowsOperands_76 rfl rfl in_X2 (by decide) wd_164 rfl ?_
      refine WP.iload_n dX9_knowsOperands_79 rfl rfl ?_
      obtain ⟨r8, h7, h⟩ := Option.bind_eq_some_iff.mp h
      refine WP.callVI [.int x2] dX9_knowsOperands_80 lk_X9_102 rfl rfl rfl (Nat.le_of_ble_eq_true rfl) (by decide) (Nat.le_of_ble_eq_true rfl) rfl (TX3_has h7) ?_
      refine WP.if_eq (tgt := 104) dX9_knowsOperands_83 (by decide) (fun c9 => ?_) (fun c9 => ?_)
      · rw [if_pos c9] at h
        refine WP.iconst (v := 0) dX9_knowsOperands_104 (by decide) ?_
        cases h
        exact WP.zret dX9_knowsOperands_105 (by decide) ⟨rfl, rfl⟩
      · rw [if_neg c9] at h
        refine WP.aload_n dX9_knowsOperands_86 rfl rfl ?_
        refine WP.getR (j := 0) dX9_knowsOperands_87 rfl rfl in_X9 (by decide) wd_311 rfl ?_
        refine WP.getR (j := 1) dX9_knowsOperands_90 rfl rfl in_X2 (by decide) wd_164 rfl ?_
        refine WP.iload_n dX9_knowsOperands_93 rfl rfl ?_
        obtain ⟨r11, h10, h⟩ := Option.bind_eq_some_iff.mp h
        refine WP.callVI [.int x3] dX9_knowsOperands_94 lk_X9_102 rfl rfl rfl (Nat.le_of_ble_eq_true rfl) (by decide) (Nat.le_of_ble_eq_true rfl) rfl (TX3_has h10) ?_
        refine WP.if_eq (tgt := 104) dX9_knowsOperands_97 (by decide) (fun c12 => ?_) (fun c12 => ?_)
        · rw [if_pos c12] at h
          refine WP.iconst (v := 0) dX9_knowsOperands_104 (by decide) ?_
          cases h
          exact WP.zret dX9_knowsOperands_105 (by decide) ⟨rfl, rfl⟩
        · rw [if_neg c12] at h
          refine WP.iconst (v := 1) dX9_knowsOperands_100 (by decide) ?_
          refine WP.goto (tgt := 105) dX9_knowsOperands_101 (by decide) ?_
          cases h
          exact WP.zret dX9_knowsOperands_105 (by decide) ⟨rfl, rfl⟩
    · rw [if_neg c6] at h
      by_cases c13 : x1 = 9
      · rw [if_pos c13] at h
        refine WP.tbl (off := 105) (tgt := 106) dX9_knowsOperands_1 (by rw [c13]; decide) (by decide) ?_
        refine WP.aload_n dX9_knowsOperands_106 rfl rfl ?_
        refine WP.getR (j := 0) dX9_knowsOperands_107 rfl rfl in_X9 (by decide) wd_311 rfl ?_
        refine WP.getR (j := 1) dX9_knowsOperands_110 rfl rfl in_X2 (by decide) wd_164 rfl ?_
        refine WP.iload_n dX9_knowsOperands_113 rfl rfl ?_
        obtain ⟨r15, h14, h⟩ := Option.bind_eq_some_iff.mp h
        refine WP.callVI [.int x2] dX9_knowsOperands_114 lk_X9_102 rfl rfl rfl (Nat.le_of_ble_eq_true rfl) (by decide) (Nat.le_of_ble_eq_true rfl) rfl (TX3_has h14) ?_
        obtain ⟨g16, h17, h⟩ := Option.bind_eq_some_iff.mp h
        obtain ⟨rfl, h17⟩ := gdB_ok h17
        cases h
        exact WP.zret dX9_knowsOperands_117 h17 ⟨rfl, rfl⟩
      · rw [if_neg c13] at h
        by_cases c18 : x1 = 11
        · rw [if_pos c18] at h
          refine WP.tbl (off := 117) (tgt := 118) dX9_knowsOperands_1 (by rw [c18]; decide) (by decide) ?_
          refine WP.aload_n dX9_knowsOperands_118 rfl rfl ?_
          refine WP.getR (j := 0) dX9_knowsOperands_119 rfl rfl in_X9 (by decide) wd_311 rfl ?_
          refine WP.getR (j := 1) dX9_knowsOperands_122 rfl rfl in_X2 (by decide) wd_164 rfl ?_
          refine WP.iload_n dX9_knowsOperands_125 rfl rfl ?_
          obtain ⟨r20, h19, h⟩ := Option.bind_eq_some_iff.mp h
          refine WP.callVI [.int x2] dX9_knowsOperands_126 lk_X9_102 rfl rfl rfl (Nat.le_of_ble_eq_true rfl) (by decide) (Nat.le_of_ble_eq_true rfl) rfl (TX3_has h19) ?_
          refine WP.if_eq (tgt := 165) dX9_knowsOperands_129 (by decide) (fun c21 => ?_) (fun c21 => ?_)
          · rw [if_pos c21] at h
            refine WP.iconst (v := 0) dX9_knowsOperands_165 (by decide) ?_
            cases h
            exact WP.zret dX9_knowsOperands_166 (by decide) ⟨rfl, rfl⟩
          · rw [if_neg c21] at h
            refine WP.aload_n dX9_knowsOperands_132 rfl rfl ?_
            refine WP.getR (j := 0) dX9_knowsOperands_133 rfl rfl in_X9 (by decide) wd_311 rfl ?_
            refine WP.getR (j := 1) dX9_knowsOperands_136 rfl rfl in_X2 (by decide) wd_164 rfl ?_
            refine WP.iload_n dX9_knowsOperands_139 rfl rfl ?_
            obtain ⟨r23, h22, h⟩ := Option.bind_eq_some_iff.mp h
            refine WP.callVI [.int x3] dX9_knowsOperands_140 lk_X9_102 rfl rfl rfl (Nat.le_of_ble_eq_true rfl) (by decide) (Nat.le_of_ble_eq_true rfl) rfl (TX3_has h22) ?_
            refine WP.if_eq (tgt := 165) dX9_knowsOperands_143 (by decide) (fun c24 => ?_) (fun c24 => ?_)
            · rw [if_pos c24] at h
              refine WP.iconst (v := 0) dX9_knowsOperands_165 (by decide) ?_
              cases h
              exact WP.zret dX9_knowsOperands_166 (by decide) ⟨rfl, rfl⟩
            · rw [if_neg c24] at h
              refine WP.aload_n dX9_knowsOperands_146 rfl rfl ?_
              refine WP.getR (j := 0) dX9_knowsOperands_147 rfl rfl in_X9 (by decide) wd_311 rfl ?_
              refine WP.getR (j := 1) dX9_knowsOperands_150 rfl rfl in_X2 (by decide) wd_164 rfl ?_
              refine WP.iload dX9_knowsOperands_153 rfl ?_
              obtain ⟨r26, h25, h⟩ := Option.bind_eq_some_iff.mp h
              refine WP.callVI [.int x4] dX9_knowsOperands_155 lk_X9_102 rfl rfl rfl (Nat.le_of_ble_eq_true rfl) (by decide) (Nat.le_of_ble_eq_true rfl) rfl (TX3_has h25) ?_
              refine WP.if_eq (tgt := 165) dX9_knowsOperands_158 (by decide) (fun c27 => ?_) (fun c27 => ?_)
              · rw [if_pos c27] at h
                refine WP.iconst (v := 0) dX9_knowsOperands_165 (by decide) ?_
                cases h
                exact WP.zret dX9_knowsOperands_166 (by decide) ⟨rfl, rfl⟩
              · rw [if_neg c27] at h
                refine WP.iconst (v := 1) dX9_knowsOperands_161 (by decide) ?_
                refine WP.goto (tgt := 166) dX9_knowsOperands_162 (by decide) ?_
                cases h
                exact WP.zret dX9_knowsOperands_166 (by decide) ⟨rfl, rfl⟩
        · rw [if_neg c18] at h
          refine WP.tbl (off := 166) (tgt := 167) dX9_knowsOperands_1 (by
              have n1 := lv_neT (k := 1) (a := 1) (fun z => c1 (Or.inl z)) (by decide)
              have n10 := lv_neT (k := 10) (a := 10) (fun z => c1 (Or.inr (z))) (by decide)
              have n2 := lv_neT (k := 2) (a := 2) (fun z => c6 (Or.inl z)) (by decide)
              have n3 := lv_neT (k := 3) (a := 3) (fun z => c6 (Or.inr (Or.inl z))) (by decide)
              have n4 := lv_neT (k := 4) (a := 4) (fun z => c6 (Or.inr (Or.inr (Or.inl z)))) (by decide)
              have n5 := lv_neT (k := 5) (a := 5) (fun z => c6 (Or.inr (Or.inr (Or.inr (Or.inl z))))) (by decide)
              have n6 := lv_neT (k := 6) (a := 6) (fun z => c6 (Or.inr (Or.inr (Or.inr (Or.inr (Or.inl z)))))) (by decide)
              have n7 := lv_neT (k := 7) (a := 7) (fun z => c6 (Or.inr (Or.inr (Or.inr (Or.inr (Or.inr (Or.inl z))))))) (by decide)
              have n8 := lv_neT (k := 8) (a := 8) (fun z => c6 (Or.inr (Or.inr (Or.inr (Or.inr (Or.inr (Or.inr (z)))))))) (by decide)
              have n9 := lv_neT (k := 9) (a := 9) (fun z => c13 (z)) (by decide)
              have n11 := lv_neT (k := 11) (a := 11) (fun z => c18 (z)) (by decide)
              exact swT_def (by omega)) (by decide) ?_
          refine WP.iconst (v := 1) dX9_knowsOperands_167 (by decide) ?_
          cases h
          exact WP.zret dX9_knowsOperands_168 (by decide) ⟨rfl, rfl⟩
/-! X9_part -/
def rX9_part : Room := { frames := 3, cells := 0, slots := 0, locals := 66 }
def BX9_part_46 (N : Nat) (a1 : Int32) (a2 : Int32) (a3 : Int32) (a4 : Int32) (M : Mm) : Option (Int32 × Mm) :=
  (FX3_add a1 a2 a3 a4 M).bind fun p2 => (FX2_arrange N p2.2).bind fun M4 => some (p2.1, M4)
def FX9_part (N : Nat) (x1 : Int32) (x2 : Int32) (x3 : Int32) (x4 : Int32) (M : Mm) : Option (Int32 × Mm) :=
  (FX9_knowsOperands x1 x2 x3 x4 M).bind fun r2 => (if r2 = 0 then some ((-1), M) else (if x1 < 0 then some ((-2), M) else (if x1 ≤ 11 then (if x1 = 0 then (if x2 < (-1000000) then some ((-2), M) else (if x2 ≤ 1000000 then BX9_part_46 N x1 x2 x3 x4 M else some ((-2), M))) else BX9_part_46 N x1 x2 x3 x4 M) else some ((-2), M))))
theorem eBX9_part_46 (N : Nat) (a1 : Int32) (a2 : Int32) (a3 : Int32) (a4 : Int32) (M : Mm) : BX9_part_46 N a1 a2 a3 a4 M = (FX3_add a1 a2 a3 a4 M).bind fun p2 => (FX2_arrange N p2.2).bind fun M4 => some (p2.1, M4) := rfl
theorem eFX9_part (N : Nat) (x1 : Int32) (x2 : Int32) (x3 : Int32) (x4 : Int32) (M : Mm) : FX9_part N x1 x2 x3 x4 M = (FX9_knowsOperands x1 x2 x3 x4 M).bind fun r2 => (if r2 = 0 then some ((-1), M) else (if x1 < 0 then some ((-2), M) else (if x1 ≤ 11 then (if x1 = 0 then (if x2 < (-1000000) then some ((-2), M) else (if x2 ≤ 1000000 then BX9_part_46 N x1 x2 x3 x4 M else some ((-2), M))) else BX9_part_46 N x1 x2 x3 x4 M) else some ((-2), M)))) := rfl
set_option maxRecDepth 20000 in
theorem tX9_part_46 {l : Launch} {G : va_G} {tc : Nat → ClassId} {D : Nat → Nat} {N : Nat} {a1 : Int32} {a2 : Int32} {a3 : Int32} {a4 : Int32} {M : Mm} {R : (Int32 × Mm)} (h : BX9_part_46 N a1 a2 a3 a4 M = some R) : WP l G tc D lay (fun _ => True) RX9 cX9_part 6 rX9_part (.code yX9_part cX9_part 6 (some .int)) 46 [some (.ref 0), some (.int a1), some (.int a2), some (.int a3), some (.int a4), none] [] M (RetQ cX9_part (some .int) (RQI R.1 R.2)) := by
  unfold BX9_part_46 at h
  refine WP.aload_n dX9_part_46 rfl rfl ?_
  refine WP.getR (j := 0) dX9_part_47 rfl rfl in_X9 (by decide) wd_311 rfl ?_
  refine WP.getR (j := 1) dX9_part_50 rfl rfl in_X2 (by decide) wd_164 rfl ?_
  refine WP.iload_n dX9_part_53 rfl rfl ?_
  refine WP.iload_n dX9_part_54 rfl rfl ?_
  refine WP.iload_n dX9_part_55 rfl rfl ?_
  refine WP.iload dX9_part_56 rfl ?_
  obtain ⟨p2, h1, h⟩ := Option.bind_eq_some_iff.mp h
  refine WP.callVI [.int a1, .int a2, .int a3, .int a4] dX9_part_58 lk_X9_93 rfl rfl rfl (Nat.le_of_ble_eq_true rfl) (by decide) (Nat.le_of_ble_eq_true rfl) rfl (TX3_add h1) ?_
  refine WP.istore dX9_part_61 (by decide) rfl rfl ?_
  refine WP.aload_n dX9_part_63 rfl rfl ?_
  refine WP.getR (j := 0) dX9_part_64 rfl rfl in_X9 (by decide) wd_311 rfl ?_
  obtain ⟨M4, h3, h⟩ := Option.bind_eq_some_iff.mp h
  refine WP.callVV [] dX9_part_67 lk_X9_80 rfl rfl rfl (Nat.le_of_ble_eq_true rfl) (by decide) (Nat.le_of_ble_eq_true rfl) rfl (TX2_arrange h3) ?_
  refine WP.iload dX9_part_70 rfl ?_
  cases h
  exact WP.iret dX9_part_72 ⟨rfl, rfl⟩
set_option maxRecDepth 20000 in
theorem TX9_part {l : Launch} {G : va_G} {tc : Nat → ClassId} {D : Nat → Nat} {N : Nat} {x1 : Int32} {x2 : Int32} {x3 : Int32} {x4 : Int32} {M : Mm} {R : (Int32 × Mm)} (h : FX9_part N x1 x2 x3 x4 M = some R) : WP l G tc D lay (fun _ => True) yX9_part.cls cX9_part 6 rX9_part (.code yX9_part cX9_part 6 (some .int)) 0 (entL 6 [.ref 0, .int x1, .int x2, .int x3, .int x4]) [] M (RetQ cX9_part (some .int) (RQI R.1 R.2)) := by
  show WP l G tc D lay (fun _ => True) RX9 cX9_part 6 rX9_part (.code yX9_part cX9_part 6 (some .int)) 0 [some (.ref 0), some (.int x1), some (.int x2), some (.int x3), some (.int x4), none] [] M (RetQ cX9_part (some .int) (RQI R.1 R.2))
  unfold FX9_part at h
  refine WP.aload_n dX9_part_0 rfl rfl ?_
  refine WP.iload_n dX9_part_1 rfl rfl ?_
  refine WP.iload_n dX9_part_2 rfl rfl ?_
  refine WP.iload_n dX9_part_3 rfl rfl ?_
  refine WP.iload dX9_part_4 rfl ?_
  obtain ⟨r2, h1, h⟩ := Option.bind_eq_some_iff.mp h
  refine WP.callVI [.int x1, .int x2, .int x3, .int x4] dX9_part_6 lk_X9_83 rfl rfl rfl (Nat.le_of_ble_eq_true rfl) (by decide) (Nat.le_of_ble_eq_true rfl) rfl (TX9_knowsOperands h1) ?_
  refine WP.if_ne (tgt := 14) dX9_part_9 (by decide) (fun c3 => ?_) (fun c3 => ?_)
  · rw [if_neg c3] at h
    refine WP.iload_n dX9_part_14 rfl rfl ?_
    refine WP.if_lt (tgt := 24) dX9_part_15 (by decide) (fun c4 => ?_) (fun c4 => ?_)
    · rw [if_pos c4] at h
      refine WP.bipush (v := (-2)) dX9_part_24 (by decide) ?_
      cases h
      exact WP.iret dX9_part_26 ⟨rfl, rfl⟩
    · rw [if_neg c4] at h
      refine WP.iload_n dX9_part_18 rfl rfl ?_
      refine WP.bipush (v := 11) dX9_part_19 (by decide) ?_
      refine WP.icmp_le (tgt := 27) dX9_part_21 (by decide) (fun c5 => ?_) (fun c5 => ?_)
      · rw [if_pos c5] at h
        refine WP.iload_n dX9_part_27 rfl rfl ?_
        refine WP.if_ne (tgt := 46) dX9_part_28 (by decide) (fun c6 => ?_) (fun c6 => ?_)
        · rw [if_neg c6] at h
          refine WP.fgt [true, true, true, true, true, false] rfl ?_
          exact tX9_part_46  h
        · rw [if_pos c6] at h
          refine WP.iload_n dX9_part_31 rfl rfl ?_
          refine WP.ldc (v := (-1000000)) dX9_part_32 wd_382 ?_
          refine WP.icmp_lt (tgt := 43) dX9_part_34 (by decide) (fun c7 => ?_) (fun c7 => ?_)
          · rw [if_pos c7] at h
            refine WP.bipush (v := (-2)) dX9_part_43 (by decide) ?_
            cases h
            exact WP.iret dX9_part_45 ⟨rfl, rfl⟩
          · rw [if_neg c7] at h
            refine WP.iload_n dX9_part_37 rfl rfl ?_
            refine WP.ldc (v := 1000000) dX9_part_38 wd_383 ?_
            refine WP.icmp_le (tgt := 46) dX9_part_40 (by decide) (fun c8 => ?_) (fun c8 => ?_)
            · rw [if_pos c8] at h
              refine WP.fgt [true, true, true, true, true, false] rfl ?_
              exact tX9_part_46  h
            · rw [if_neg c8] at h
              refine WP.bipush (v := (-2)) dX9_part_43 (by decide) ?_
              cases h
              exact WP.iret dX9_part_45 ⟨rfl, rfl⟩
      · rw [if_neg c5] at h
        refine WP.bipush (v := (-2)) dX9_part_24 (by decide) ?_
        cases h
        exact WP.iret dX9_part_26 ⟨rfl, rfl⟩
  · rw [if_pos c3] at h
    refine WP.iconst (v := (-1)) dX9_part_12 (by decide) ?_
    cases h
    exact WP.iret dX9_part_13 ⟨rfl, rfl⟩
/-! X9_rule -/
def rX9_rule : Room := { frames := 4, cells := 0, slots := 0, locals := 89 }
def BX9_rule_68 (N : Nat) (a1 : Int32) (a2 : Int32) (a3 : Int32) (M : Mm) : Option (Int32 × Mm) :=
  (FX2_directWith a1 a2 a3 M).bind fun r2 => (FX0_spread N r2 M).bind fun r4 => (FX9_hasBit r4 a1 M).bind fun r6 => (if r6 = 0 then (FX2_setRule N a1 a2 a3 M).bind fun M9 => some (1, M9) else (FX4_follow N a1 r2 M).bind fun M11 => some ((-3), M11))
def BX9_rule_36 (N : Nat) (a1 : Int32) (a2 : Int32) (a3 : Int32) (M : Mm) : Option (Int32 × Mm) :=
  (if a2 < 0 then some ((-2), M) else (if 3 < a2 then some ((-2), M) else (if a2 = 3 then (rdI M 5 12 a1).bind fun v4 => (if v4 = 0 then some ((-2), M) else BX9_rule_68 N a1 a2 a3 M) else BX9_rule_68 N a1 a2 a3 M)))
def FX9_rule (N : Nat) (x1 : Int32) (x2 : Int32) (x3 : Int32) (M : Mm) : Option (Int32 × Mm) :=
  (FX0_has x1 M).bind fun r2 => (if r2 = 0 then some ((-1), M) else (if x3 = (-9) then BX9_rule_36 N x1 x2 x3 M else (FX3_has x3 M).bind fun r6 => (if r6 = 0 then some ((-1), M) else BX9_rule_36 N x1 x2 x3 M)))
theorem eBX9_rule_68 (N : Nat) (a1 : Int32) (a2 : Int32) (a3 : Int32) (M : Mm) : BX9_rule_68 N a1 a2 a3 M = (FX2_directWith a1 a2 a3 M).bind fun r2 => (FX0_spread N r2 M).bind fun r4 => (FX9_hasBit r4 a1 M).bind fun r6 => (if r6 = 0 then (FX2_setRule N a1 a2 a3 M).bind fun M9 => some (1, M9) else (FX4_follow N a1 r2 M).bind fun M11 => some ((-3), M11)) := rfl
theorem eBX9_rule_36 (N : Nat) (a1 : Int32) (a2 : Int32) (a3 : Int32) (M : Mm) : BX9_rule_36 N a1 a2 a3 M = (if a2 < 0 then some ((-2), M) else (if 3 < a2 then some ((-2), M) else (if a2 = 3 then (rdI M 5 12 a1).bind fun v4 => (if v4 = 0 then some ((-2), M) else BX9_rule_68 N a1 a2 a3 M) else BX9_rule_68 N a1 a2 a3 M))) := rfl
theorem eFX9_rule (N : Nat) (x1 : Int32) (x2 : Int32) (x3 : Int32) (M : Mm) : FX9_rule N x1 x2 x3 M = (FX0_has x1 M).bind fun r2 => (if r2 = 0 then some ((-1), M) else (if x3 = (-9) then BX9_rule_36 N x1 x2 x3 M else (FX3_has x3 M).bind fun r6 => (if r6 = 0 then some ((-1), M) else BX9_rule_36 N x1 x2 x3 M))) := rfl
set_option maxRecDepth 20000 in
theorem tX9_rule_68 {l : Launch} {G : va_G} {tc : Nat → ClassId} {D : Nat → Nat} {N : Nat} {a1 : Int32} {a2 : Int32} {a3 : Int32} {M : Mm} {R : (Int32 × Mm)} (h : BX9_rule_68 N a1 a2 a3 M = some R) : WP l G tc D lay (fun _ => True) RX9 cX9_rule 5 rX9_rule (.code yX9_rule cX9_rule 5 (some .int)) 68 [some (.ref 0), some (.int a1), some (.int a2), some (.int a3), none] [] M (RetQ cX9_rule (some .int) (RQI R.1 R.2)) := by
  unfold BX9_rule_68 at h
  refine WP.aload_n dX9_rule_68 rfl rfl ?_
  refine WP.getR (j := 0) dX9_rule_69 rfl rfl in_X9 (by decide) wd_311 rfl ?_
  refine WP.iload_n dX9_rule_72 rfl rfl ?_
  refine WP.iload_n dX9_rule_73 rfl rfl ?_
  refine WP.iload_n dX9_rule_74 rfl rfl ?_
  obtain ⟨r2, h1, h⟩ := Option.bind_eq_some_iff.mp h
  refine WP.callVI [.int a1, .int a2, .int a3] dX9_rule_75 lk_X9_107 rfl rfl rfl (Nat.le_of_ble_eq_true rfl) (by decide) (Nat.le_of_ble_eq_true rfl) rfl (TX2_directWith h1) ?_
  refine WP.istore dX9_rule_78 (by decide) rfl rfl ?_
  refine WP.aload_n dX9_rule_80 rfl rfl ?_
  refine WP.getR (j := 0) dX9_rule_81 rfl rfl in_X9 (by decide) wd_311 rfl ?_
  refine WP.getR (j := 0) dX9_rule_84 rfl rfl in_X2 (by decide) wd_161 rfl ?_
  refine WP.iload dX9_rule_87 rfl ?_
  obtain ⟨r4, h3, h⟩ := Option.bind_eq_some_iff.mp h
  refine WP.callVI [.int r2] dX9_rule_89 lk_X9_111 rfl rfl rfl (Nat.le_of_ble_eq_true rfl) (by decide) (Nat.le_of_ble_eq_true rfl) rfl (TX0_spread h3) ?_
  refine WP.iload_n dX9_rule_92 rfl rfl ?_
  obtain ⟨r6, h5, h⟩ := Option.bind_eq_some_iff.mp h
  refine WP.callSI [.int r4, .int a1] dX9_rule_93 lk_X9_115 rfl (Nat.le_of_ble_eq_true rfl) (by decide) (Nat.le_of_ble_eq_true rfl) rfl (TX9_hasBit h5) ?_
  refine WP.if_eq (tgt := 119) dX9_rule_96 (by decide) (fun c7 => ?_) (fun c7 => ?_)
  · rw [if_pos c7] at h
    refine WP.aload_n dX9_rule_119 rfl rfl ?_
    refine WP.getR (j := 0) dX9_rule_120 rfl rfl in_X9 (by decide) wd_311 rfl ?_
    refine WP.iload_n dX9_rule_123 rfl rfl ?_
    refine WP.iload_n dX9_rule_124 rfl rfl ?_
    refine WP.iload_n dX9_rule_125 rfl rfl ?_
    obtain ⟨M9, h8, h⟩ := Option.bind_eq_some_iff.mp h
    refine WP.callVV [.int a1, .int a2, .int a3] dX9_rule_126 lk_X9_123 rfl rfl rfl (Nat.le_of_ble_eq_true rfl) (by decide) (Nat.le_of_ble_eq_true rfl) rfl (TX2_setRule h8) ?_
    refine WP.iconst (v := 1) dX9_rule_129 (by decide) ?_
    cases h
    exact WP.iret dX9_rule_130 ⟨rfl, rfl⟩
  · rw [if_neg c7] at h
    refine WP.aload_n dX9_rule_99 rfl rfl ?_
    refine WP.getR (j := 1) dX9_rule_100 rfl rfl in_X9 (by decide) wd_312 rfl ?_
    refine WP.aload_n dX9_rule_103 rfl rfl ?_
    refine WP.getR (j := 0) dX9_rule_104 rfl rfl in_X9 (by decide) wd_311 rfl ?_
    refine WP.getR (j := 0) dX9_rule_107 rfl rfl in_X2 (by decide) wd_161 rfl ?_
    refine WP.iload_n dX9_rule_110 rfl rfl ?_
    refine WP.iload dX9_rule_111 rfl ?_
    obtain ⟨M11, h10, h⟩ := Option.bind_eq_some_iff.mp h
    refine WP.callVV [.ref 2, .int a1, .int r2] dX9_rule_113 lk_X9_119 rfl rfl rfl (Nat.le_of_ble_eq_true rfl) (by decide) (Nat.le_of_ble_eq_true rfl) rfl (TX4_follow h10) ?_
    refine WP.bipush (v := (-3)) dX9_rule_116 (by decide) ?_
    cases h
    exact WP.iret dX9_rule_118 ⟨rfl, rfl⟩
set_option maxRecDepth 20000 in
theorem tX9_rule_36 {l : Launch} {G : va_G} {tc : Nat → ClassId} {D : Nat → Nat} {N : Nat} {a1 : Int32} {a2 : Int32} {a3 : Int32} {M : Mm} {R : (Int32 × Mm)} (h : BX9_rule_36 N a1 a2 a3 M = some R) : WP l G tc D lay (fun _ => True) RX9 cX9_rule 5 rX9_rule (.code yX9_rule cX9_rule 5 (some .int)) 36 [some (.ref 0), some (.int a1), some (.int a2), some (.int a3), none] [] M (RetQ cX9_rule (some .int) (RQI R.1 R.2)) := by
  unfold BX9_rule_36 at h
  refine WP.iload_n dX9_rule_36 rfl rfl ?_
  refine WP.if_lt (tgt := 65) dX9_rule_37 (by decide) (fun c1 => ?_) (fun c1 => ?_)
  · rw [if_pos c1] at h
    refine WP.bipush (v := (-2)) dX9_rule_65 (by decide) ?_
    cases h
    exact WP.iret dX9_rule_67 ⟨rfl, rfl⟩
  · rw [if_neg c1] at h
    refine WP.iload_n dX9_rule_40 rfl rfl ?_
    refine WP.iconst (v := 3) dX9_rule_41 (by decide) ?_
    refine WP.icmp_gt (tgt := 65) dX9_rule_42 (by decide) (fun c2 => ?_) (fun c2 => ?_)
    · rw [if_pos c2] at h
      refine WP.bipush (v := (-2)) dX9_rule_65 (by decide) ?_
      cases h
      exact WP.iret dX9_rule_67 ⟨rfl, rfl⟩
    · rw [if_neg c2] at h
      refine WP.iload_n dX9_rule_45 rfl rfl ?_
      refine WP.iconst (v := 3) dX9_rule_46 (by decide) ?_
      refine WP.icmp_ne (tgt := 68) dX9_rule_47 (by decide) (fun c3 => ?_) (fun c3 => ?_)
      · rw [if_neg c3] at h
        refine WP.fgt [true, true, true, true, false] rfl ?_
        exact tX9_rule_68  h
      · rw [if_pos c3] at h
        refine WP.aload_n dX9_rule_50 rfl rfl ?_
        refine WP.getR (j := 0) dX9_rule_51 rfl rfl in_X9 (by decide) wd_311 rfl ?_
        refine WP.getR (j := 0) dX9_rule_54 rfl rfl in_X2 (by decide) wd_161 rfl ?_
        refine WP.getR (j := 2) dX9_rule_57 rfl rfl in_X0 (by decide) wd_91 rfl ?_
        refine WP.iload_n dX9_rule_60 rfl rfl ?_
        obtain ⟨v4, h5, h⟩ := Option.bind_eq_some_iff.mp h
        refine WP.zaldQ dX9_rule_61 rfl h5 ?_
        refine WP.if_ne (tgt := 68) dX9_rule_62 (by decide) (fun c6 => ?_) (fun c6 => ?_)
        · rw [if_neg c6] at h
          refine WP.fgt [true, true, true, true, false] rfl ?_
          exact tX9_rule_68  h
        · rw [if_pos c6] at h
          refine WP.bipush (v := (-2)) dX9_rule_65 (by decide) ?_
          cases h
          exact WP.iret dX9_rule_67 ⟨rfl, rfl⟩
set_option maxRecDepth 20000 in
theorem TX9_rule {l : Launch} {G : va_G} {tc : Nat → ClassId} {D : Nat → Nat} {N : Nat} {x1 : Int32} {x2 : Int32} {x3 : Int32} {M : Mm} {R : (Int32 × Mm)} (h : FX9_rule N x1 x2 x3 M = some R) : WP l G tc D lay (fun _ => True) yX9_rule.cls cX9_rule 5 rX9_rule (.code yX9_rule cX9_rule 5 (some .int)) 0 (entL 5 [.ref 0, .int x1, .int x2, .int x3]) [] M (RetQ cX9_rule (some .int) (RQI R.1 R.2)) := by
  show WP l G tc D lay (fun _ => True) RX9 cX9_rule 5 rX9_rule (.code yX9_rule cX9_rule 5 (some .int)) 0 [some (.ref 0), some (.int x1), some (.int x2), some (.int x3), none] [] M (RetQ cX9_rule (some .int) (RQI R.1 R.2))
  unfold FX9_rule at h
  refine WP.aload_n dX9_rule_0 rfl rfl ?_
  refine WP.getR (j := 0) dX9_rule_1 rfl rfl in_X9 (by decide) wd_311 rfl ?_
  refine WP.getR (j := 0) dX9_rule_4 rfl rfl in_X2 (by decide) wd_161 rfl ?_
  refine WP.iload_n dX9_rule_7 rfl rfl ?_
  obtain ⟨r2, h1, h⟩ := Option.bind_eq_some_iff.mp h
  refine WP.callVI [.int x1] dX9_rule_8 lk_X9_98 rfl rfl rfl (Nat.le_of_ble_eq_true rfl) (by decide) (Nat.le_of_ble_eq_true rfl) rfl (TX0_has h1) ?_
  refine WP.if_eq (tgt := 34) dX9_rule_11 (by decide) (fun c3 => ?_) (fun c3 => ?_)
  · rw [if_pos c3] at h
    refine WP.iconst (v := (-1)) dX9_rule_34 (by decide) ?_
    cases h
    exact WP.iret dX9_rule_35 ⟨rfl, rfl⟩
  · rw [if_neg c3] at h
    refine WP.iload_n dX9_rule_14 rfl rfl ?_
    refine WP.bipush (v := (-9)) dX9_rule_15 (by decide) ?_
    refine WP.icmp_eq (tgt := 36) dX9_rule_17 (by decide) (fun c4 => ?_) (fun c4 => ?_)
    · rw [if_pos c4] at h
      refine WP.fgt [true, true, true, true, false] rfl ?_
      exact tX9_rule_36  h
    · rw [if_neg c4] at h
      refine WP.aload_n dX9_rule_20 rfl rfl ?_
      refine WP.getR (j := 0) dX9_rule_21 rfl rfl in_X9 (by decide) wd_311 rfl ?_
      refine WP.getR (j := 1) dX9_rule_24 rfl rfl in_X2 (by decide) wd_164 rfl ?_
      refine WP.iload_n dX9_rule_27 rfl rfl ?_
      obtain ⟨r6, h5, h⟩ := Option.bind_eq_some_iff.mp h
      refine WP.callVI [.int x3] dX9_rule_28 lk_X9_102 rfl rfl rfl (Nat.le_of_ble_eq_true rfl) (by decide) (Nat.le_of_ble_eq_true rfl) rfl (TX3_has h5) ?_
      refine WP.if_ne (tgt := 36) dX9_rule_31 (by decide) (fun c7 => ?_) (fun c7 => ?_)
      · rw [if_neg c7] at h
        refine WP.fgt [true, true, true, true, false] rfl ?_
        exact tX9_rule_36  h
      · rw [if_pos c7] at h
        refine WP.iconst (v := (-1)) dX9_rule_34 (by decide) ?_
        cases h
        exact WP.iret dX9_rule_35 ⟨rfl, rfl⟩
/-! X9_ring -/
def rX9_ring : Room := { frames := 0, cells := 0, slots := 0, locals := 0 }
def FX9_ring (x1 : Int32) (M : Mm) : Option Int32 :=
  (if x1 < 0 then some (-1) else (if (M.1 30 1) ≤ x1 then some (-1) else (rdI M 31 12 x1).bind fun v3 => some v3))
theorem eFX9_ring (x1 : Int32) (M : Mm) : FX9_ring x1 M = (if x1 < 0 then some (-1) else (if (M.1 30 1) ≤ x1 then some (-1) else (rdI M 31 12 x1).bind fun v3 => some v3)) := rfl
set_option maxRecDepth 20000 in
theorem TX9_ring {l : Launch} {G : va_G} {tc : Nat → ClassId} {D : Nat → Nat} {x1 : Int32} {M : Mm} {R : Int32} (h : FX9_ring x1 M = some R) : WP l G tc D lay (fun _ => True) yX9_ring.cls cX9_ring 2 rX9_ring (.code yX9_ring cX9_ring 2 (some .int)) 0 (entL 2 [.ref 0, .int x1]) [] M (RetQ cX9_ring (some .int) (RQI R M)) := by
  show WP l G tc D lay (fun _ => True) RX9 cX9_ring 2 rX9_ring (.code yX9_ring cX9_ring 2 (some .int)) 0 [some (.ref 0), some (.int x1)] [] M (RetQ cX9_ring (some .int) (RQI R M))
  unfold FX9_ring at h
  refine WP.iload_n dX9_ring_0 rfl rfl ?_
  refine WP.if_lt (tgt := 27) dX9_ring_1 (by decide) (fun c1 => ?_) (fun c1 => ?_)
  · rw [if_pos c1] at h
    refine WP.iconst (v := (-1)) dX9_ring_27 (by decide) ?_
    cases h
    exact WP.iret dX9_ring_28 ⟨rfl, rfl⟩
  · rw [if_neg c1] at h
    refine WP.iload_n dX9_ring_4 rfl rfl ?_
    refine WP.aload_n dX9_ring_5 rfl rfl ?_
    refine WP.getR (j := 1) dX9_ring_6 rfl rfl in_X9 (by decide) wd_312 rfl ?_
    refine WP.getI (j := 1) dX9_ring_9 rfl rfl in_X4 (by decide) wd_195 rfl ?_
    refine WP.icmp_ge (tgt := 27) dX9_ring_12 (by decide) (fun c2 => ?_) (fun c2 => ?_)
    · rw [if_pos c2] at h
      refine WP.iconst (v := (-1)) dX9_ring_27 (by decide) ?_
      cases h
      exact WP.iret dX9_ring_28 ⟨rfl, rfl⟩
    · rw [if_neg c2] at h
      refine WP.aload_n dX9_ring_15 rfl rfl ?_
      refine WP.getR (j := 1) dX9_ring_16 rfl rfl in_X9 (by decide) wd_312 rfl ?_
      refine WP.getR (j := 0) dX9_ring_19 rfl rfl in_X4 (by decide) wd_193 rfl ?_
      refine WP.iload_n dX9_ring_22 rfl rfl ?_
      obtain ⟨v3, h4, h⟩ := Option.bind_eq_some_iff.mp h
      refine WP.ialdQ dX9_ring_23 rfl h4 ?_
      refine WP.goto (tgt := 28) dX9_ring_24 (by decide) ?_
      cases h
      exact WP.iret dX9_ring_28 ⟨rfl, rfl⟩
/-! X9_about -/
def rX9_about : Room := { frames := 2, cells := 0, slots := 0, locals := 44 }
def FX9_about (N : Nat) (x1 : Int32) (x2 : Int32) (M : Mm) : Option Int32 :=
  (FX0_has x1 M).bind fun r2 => (if r2 = 0 then some (-1) else (if x2 = 0 then (rdI M 3 12 x1).bind fun v5 => some v5 else (if x2 = 1 then (rdI M 4 12 x1).bind fun v8 => some v8 else (if x2 = 2 then (rdI M 5 12 x1).bind fun v11 => (if v11 = 0 then some 0 else some 1) else (if x2 = 3 ∨ x2 = 4 ∨ x2 = 5 ∨ x2 = 6 then (ckR 7 12 x1).bind fun k15 => (rdI M k15 4 (x2 - 3)).bind fun v17 => some v17 else (if x2 = 7 then (rdI M 20 12 x1).bind fun v20 => (FJ6_bitCount_0f7a4 v20 M).bind fun r23 => some r23 else (if x2 = 8 then (FX0_hangersOn N x1 M).bind fun r26 => some r26 else some (-2))))))))
theorem eFX9_about (N : Nat) (x1 : Int32) (x2 : Int32) (M : Mm) : FX9_about N x1 x2 M = (FX0_has x1 M).bind fun r2 => (if r2 = 0 then some (-1) else (if x2 = 0 then (rdI M 3 12 x1).bind fun v5 => some v5 else (if x2 = 1 then (rdI M 4 12 x1).bind fun v8 => some v8 else (if x2 = 2 then (rdI M 5 12 x1).bind fun v11 => (if v11 = 0 then some 0 else some 1) else (if x2 = 3 ∨ x2 = 4 ∨ x2 = 5 ∨ x2 = 6 then (ckR 7 12 x1).bind fun k15 => (rdI M k15 4 (x2 - 3)).bind fun v17 => some v17 else (if x2 = 7 then (rdI M 20 12 x1).bind fun v20 => (FJ6_bitCount_0f7a4 v20 M).bind fun r23 => some r23 else (if x2 = 8 then (FX0_hangersOn N x1 M).bind fun r26 => some r26 else some (-2)))))))) := rfl
set_option maxRecDepth 20000 in
theorem TX9_about {l : Launch} {G : va_G} {tc : Nat → ClassId} {D : Nat → Nat} {N : Nat} {x1 : Int32} {x2 : Int32} {M : Mm} {R : Int32} (h : FX9_about N x1 x2 M = some R) : WP l G tc D lay (fun _ => True) yX9_about.cls cX9_about 3 rX9_about (.code yX9_about cX9_about 3 (some .int)) 0 (entL 3 [.ref 0, .int x1, .int x2]) [] M (RetQ cX9_about (some .int) (RQI R M)) := by
  show WP l G tc D lay (fun _ => True) RX9 cX9_about 3 rX9_about (.code yX9_about cX9_about 3 (some .int)) 0 [some (.ref 0), some (.int x1), some (.int x2)] [] M (RetQ cX9_about (some .int) (RQI R M))
  unfold FX9_about at h
  refine WP.aload_n dX9_about_0 rfl rfl ?_
  refine WP.getR (j := 0) dX9_about_1 rfl rfl in_X9 (by decide) wd_311 rfl ?_
  refine WP.getR (j := 0) dX9_about_4 rfl rfl in_X2 (by decide) wd_161 rfl ?_
  refine WP.iload_n dX9_about_7 rfl rfl ?_
  obtain ⟨r2, h1, h⟩ := Option.bind_eq_some_iff.mp h
  refine WP.callVI [.int x1] dX9_about_8 lk_X9_98 rfl rfl rfl (Nat.le_of_ble_eq_true rfl) (by decide) (Nat.le_of_ble_eq_true rfl) rfl (TX0_has h1) ?_
  refine WP.if_ne (tgt := 16) dX9_about_11 (by decide) (fun c3 => ?_) (fun c3 => ?_)
  · rw [if_neg c3] at h
    refine WP.iload_n dX9_about_16 rfl rfl ?_
    by_cases c4 : x2 = 0
    · rw [if_pos c4] at h
      refine WP.tbl (off := 51) (tgt := 68) dX9_about_17 (by rw [c4]; decide) (by decide) ?_
      refine WP.aload_n dX9_about_68 rfl rfl ?_
      refine WP.getR (j := 0) dX9_about_69 rfl rfl in_X9 (by decide) wd_311 rfl ?_
      refine WP.getR (j := 0) dX9_about_72 rfl rfl in_X2 (by decide) wd_161 rfl ?_
      refine WP.getR (j := 0) dX9_about_75 rfl rfl in_X0 (by decide) wd_84 rfl ?_
      refine WP.iload_n dX9_about_78 rfl rfl ?_
      obtain ⟨v5, h6, h⟩ := Option.bind_eq_some_iff.mp h
      refine WP.ialdQ dX9_about_79 rfl h6 ?_
      cases h
      exact WP.iret dX9_about_80 ⟨rfl, rfl⟩
    · rw [if_neg c4] at h
      by_cases c7 : x2 = 1
      · rw [if_pos c7] at h
        refine WP.tbl (off := 64) (tgt := 81) dX9_about_17 (by rw [c7]; decide) (by decide) ?_
        refine WP.aload_n dX9_about_81 rfl rfl ?_
        refine WP.getR (j := 0) dX9_about_82 rfl rfl in_X9 (by decide) wd_311 rfl ?_
        refine WP.getR (j := 0) dX9_about_85 rfl rfl in_X2 (by decide) wd_161 rfl ?_
        refine WP.getR (j := 1) dX9_about_88 rfl rfl in_X0 (by decide) wd_88 rfl ?_
        refine WP.iload_n dX9_about_91 rfl rfl ?_
        obtain ⟨v8, h9, h⟩ := Option.bind_eq_some_iff.mp h
        refine WP.ialdQ dX9_about_92 rfl h9 ?_
        cases h
        exact WP.iret dX9_about_93 ⟨rfl, rfl⟩
      · rw [if_neg c7] at h
        by_cases c10 : x2 = 2
        · rw [if_pos c10] at h
          refine WP.tbl (off := 77) (tgt := 94) dX9_about_17 (by rw [c10]; decide) (by decide) ?_
          refine WP.aload_n dX9_about_94 rfl rfl ?_
          refine WP.getR (j := 0) dX9_about_95 rfl rfl in_X9 (by decide) wd_311 rfl ?_
          refine WP.getR (j := 0) dX9_about_98 rfl rfl in_X2 (by decide) wd_161 rfl ?_
          refine WP.getR (j := 2) dX9_about_101 rfl rfl in_X0 (by decide) wd_91 rfl ?_
          refine WP.iload_n dX9_about_104 rfl rfl ?_
          obtain ⟨v11, h12, h⟩ := Option.bind_eq_some_iff.mp h
          refine WP.zaldQ dX9_about_105 rfl h12 ?_
          refine WP.if_eq (tgt := 113) dX9_about_106 (by decide) (fun c13 => ?_) (fun c13 => ?_)
          · rw [if_pos c13] at h
            refine WP.iconst (v := 0) dX9_about_113 (by decide) ?_
            cases h
            exact WP.iret dX9_about_114 ⟨rfl, rfl⟩
          · rw [if_neg c13] at h
            refine WP.iconst (v := 1) dX9_about_109 (by decide) ?_
            refine WP.goto (tgt := 114) dX9_about_110 (by decide) ?_
            cases h
            exact WP.iret dX9_about_114 ⟨rfl, rfl⟩
        · rw [if_neg c10] at h
          by_cases c14 : x2 = 3 ∨ x2 = 4 ∨ x2 = 5 ∨ x2 = 6
          · rw [if_pos c14] at h
            refine WP.tbl (off := 98) (tgt := 115) dX9_about_17 (by rcases c14 with c14 | c14 | c14 | c14 <;> (rw [c14]; decide)) (by decide) ?_
            refine WP.aload_n dX9_about_115 rfl rfl ?_
            refine WP.getR (j := 0) dX9_about_116 rfl rfl in_X9 (by decide) wd_311 rfl ?_
            refine WP.getR (j := 0) dX9_about_119 rfl rfl in_X2 (by decide) wd_161 rfl ?_
            refine WP.getR (j := 3) dX9_about_122 rfl rfl in_X0 (by decide) wd_97 rfl ?_
            refine WP.iload_n dX9_about_125 rfl rfl ?_
            obtain ⟨k15, h16, h⟩ := Option.bind_eq_some_iff.mp h
            refine WP.aaldQ (base := 7) (n := 12) dX9_about_126 rfl rfl h16 ?_
            have hk15 := rows_6 h16
            refine WP.iload_n dX9_about_127 rfl rfl ?_
            refine WP.iconst (v := 3) dX9_about_128 (by decide) ?_
            refine WP.isub dX9_about_129 ?_
            obtain ⟨v17, h18, h⟩ := Option.bind_eq_some_iff.mp h
            refine WP.ialdQ dX9_about_130 hk15 h18 ?_
            cases h
            exact WP.iret dX9_about_131 ⟨rfl, rfl⟩
          · rw [if_neg c14] at h
            by_cases c19 : x2 = 7
            · rw [if_pos c19] at h
              refine WP.tbl (off := 115) (tgt := 132) dX9_about_17 (by rw [c19]; decide) (by decide) ?_
              refine WP.aload_n dX9_about_132 rfl rfl ?_
              refine WP.getR (j := 0) dX9_about_133 rfl rfl in_X9 (by decide) wd_311 rfl ?_
              refine WP.getR (j := 0) dX9_about_136 rfl rfl in_X2 (by decide) wd_161 rfl ?_
              refine WP.getR (j := 5) dX9_about_139 rfl rfl in_X0 (by decide) wd_104 rfl ?_
              refine WP.iload_n dX9_about_142 rfl rfl ?_
              obtain ⟨v20, h21, h⟩ := Option.bind_eq_some_iff.mp h
              refine WP.ialdQ dX9_about_143 rfl h21 ?_
              obtain ⟨r23, h22, h⟩ := Option.bind_eq_some_iff.mp h
              refine WP.callSI [.int v20] dX9_about_144 lk_X9_147 rfl (Nat.le_of_ble_eq_true rfl) (by decide) (Nat.le_of_ble_eq_true rfl) rfl (TJ6_bitCount_0f7a4 h22) ?_
              cases h
              exact WP.iret dX9_about_147 ⟨rfl, rfl⟩
            · rw [if_neg c19] at h
              by_cases c24 : x2 = 8
              · rw [if_pos c24] at h
                refine WP.tbl (off := 131) (tgt := 148) dX9_about_17 (by rw [c24]; decide) (by decide) ?_
                refine WP.aload_n dX9_about_148 rfl rfl ?_
                refine WP.getR (j := 0) dX9_about_149 rfl rfl in_X9 (by decide) wd_311 rfl ?_
                refine WP.getR (j := 0) dX9_about_152 rfl rfl in_X2 (by decide) wd_161 rfl ?_
                refine WP.iload_n dX9_about_155 rfl rfl ?_
                obtain ⟨r26, h25, h⟩ := Option.bind_eq_some_iff.mp h
                refine WP.callVI [.int x1] dX9_about_156 lk_X9_152 rfl rfl rfl (Nat.le_of_ble_eq_true rfl) (by decide) (Nat.le_of_ble_eq_true rfl) rfl (TX0_hangersOn h25) ?_
                cases h
                exact WP.iret dX9_about_159 ⟨rfl, rfl⟩
              · rw [if_neg c24] at h
                refine WP.tbl (off := 143) (tgt := 160) dX9_about_17 (by
                    have n0 := lv_neT (k := 0) (a := 0) (fun z => c4 (z)) (by decide)
                    have n1 := lv_neT (k := 1) (a := 1) (fun z => c7 (z)) (by decide)
                    have n2 := lv_neT (k := 2) (a := 2) (fun z => c10 (z)) (by decide)
                    have n3 := lv_neT (k := 3) (a := 3) (fun z => c14 (Or.inl z)) (by decide)
                    have n4 := lv_neT (k := 4) (a := 4) (fun z => c14 (Or.inr (Or.inl z))) (by decide)
                    have n5 := lv_neT (k := 5) (a := 5) (fun z => c14 (Or.inr (Or.inr (Or.inl z)))) (by decide)
                    have n6 := lv_neT (k := 6) (a := 6) (fun z => c14 (Or.inr (Or.inr (Or.inr (z))))) (by decide)
                    have n7 := lv_neT (k := 7) (a := 7) (fun z => c19 (z)) (by decide)
                    have n8 := lv_neT (k := 8) (a := 8) (fun z => c24 (z)) (by decide)
                    exact swT_def (by omega)) (by decide) ?_
                refine WP.bipush (v := (-2)) dX9_about_160 (by decide) ?_
                cases h
                exact WP.iret dX9_about_162 ⟨rfl, rfl⟩
  · rw [if_pos c3] at h
    refine WP.iconst (v := (-1)) dX9_about_14 (by decide) ?_
    cases h
    exact WP.iret dX9_about_15 ⟨rfl, rfl⟩
/-! X9_hangs -/
def rX9_hangs : Room := { frames := 1, cells := 0, slots := 0, locals := 21 }
def FX9_hangs (x1 : Int32) (x2 : Int32) (M : Mm) : Option Int32 :=
  (FX0_has x1 M).bind fun r2 => (if r2 = 0 then some (-1) else (FX0_has x2 M).bind fun r5 => (if r5 = 0 then some (-1) else (rdI M 20 12 x1).bind fun v7 => (FX9_hasBit v7 x2 M).bind fun r10 => (FX9_truth r10 M).bind fun r12 => some r12))
theorem eFX9_hangs (x1 : Int32) (x2 : Int32) (M : Mm) : FX9_hangs x1 x2 M = (FX0_has x1 M).bind fun r2 => (if r2 = 0 then some (-1) else (FX0_has x2 M).bind fun r5 => (if r5 = 0 then some (-1) else (rdI M 20 12 x1).bind fun v7 => (FX9_hasBit v7 x2 M).bind fun r10 => (FX9_truth r10 M).bind fun r12 => some r12)) := rfl
set_option maxRecDepth 20000 in
theorem TX9_hangs {l : Launch} {G : va_G} {tc : Nat → ClassId} {D : Nat → Nat} {x1 : Int32} {x2 : Int32} {M : Mm} {R : Int32} (h : FX9_hangs x1 x2 M = some R) : WP l G tc D lay (fun _ => True) yX9_hangs.cls cX9_hangs 3 rX9_hangs (.code yX9_hangs cX9_hangs 3 (some .int)) 0 (entL 3 [.ref 0, .int x1, .int x2]) [] M (RetQ cX9_hangs (some .int) (RQI R M)) := by
  show WP l G tc D lay (fun _ => True) RX9 cX9_hangs 3 rX9_hangs (.code yX9_hangs cX9_hangs 3 (some .int)) 0 [some (.ref 0), some (.int x1), some (.int x2)] [] M (RetQ cX9_hangs (some .int) (RQI R M))
  unfold FX9_hangs at h
  refine WP.aload_n dX9_hangs_0 rfl rfl ?_
  refine WP.getR (j := 0) dX9_hangs_1 rfl rfl in_X9 (by decide) wd_311 rfl ?_
  refine WP.getR (j := 0) dX9_hangs_4 rfl rfl in_X2 (by decide) wd_161 rfl ?_
  refine WP.iload_n dX9_hangs_7 rfl rfl ?_
  obtain ⟨r2, h1, h⟩ := Option.bind_eq_some_iff.mp h
  refine WP.callVI [.int x1] dX9_hangs_8 lk_X9_98 rfl rfl rfl (Nat.le_of_ble_eq_true rfl) (by decide) (Nat.le_of_ble_eq_true rfl) rfl (TX0_has h1) ?_
  refine WP.if_eq (tgt := 28) dX9_hangs_11 (by decide) (fun c3 => ?_) (fun c3 => ?_)
  · rw [if_pos c3] at h
    refine WP.iconst (v := (-1)) dX9_hangs_28 (by decide) ?_
    cases h
    exact WP.iret dX9_hangs_29 ⟨rfl, rfl⟩
  · rw [if_neg c3] at h
    refine WP.aload_n dX9_hangs_14 rfl rfl ?_
    refine WP.getR (j := 0) dX9_hangs_15 rfl rfl in_X9 (by decide) wd_311 rfl ?_
    refine WP.getR (j := 0) dX9_hangs_18 rfl rfl in_X2 (by decide) wd_161 rfl ?_
    refine WP.iload_n dX9_hangs_21 rfl rfl ?_
    obtain ⟨r5, h4, h⟩ := Option.bind_eq_some_iff.mp h
    refine WP.callVI [.int x2] dX9_hangs_22 lk_X9_98 rfl rfl rfl (Nat.le_of_ble_eq_true rfl) (by decide) (Nat.le_of_ble_eq_true rfl) rfl (TX0_has h4) ?_
    refine WP.if_ne (tgt := 30) dX9_hangs_25 (by decide) (fun c6 => ?_) (fun c6 => ?_)
    · rw [if_neg c6] at h
      refine WP.aload_n dX9_hangs_30 rfl rfl ?_
      refine WP.getR (j := 0) dX9_hangs_31 rfl rfl in_X9 (by decide) wd_311 rfl ?_
      refine WP.getR (j := 0) dX9_hangs_34 rfl rfl in_X2 (by decide) wd_161 rfl ?_
      refine WP.getR (j := 5) dX9_hangs_37 rfl rfl in_X0 (by decide) wd_104 rfl ?_
      refine WP.iload_n dX9_hangs_40 rfl rfl ?_
      obtain ⟨v7, h8, h⟩ := Option.bind_eq_some_iff.mp h
      refine WP.ialdQ dX9_hangs_41 rfl h8 ?_
      refine WP.iload_n dX9_hangs_42 rfl rfl ?_
      obtain ⟨r10, h9, h⟩ := Option.bind_eq_some_iff.mp h
      refine WP.callSI [.int v7, .int x2] dX9_hangs_43 lk_X9_115 rfl (Nat.le_of_ble_eq_true rfl) (by decide) (Nat.le_of_ble_eq_true rfl) rfl (TX9_hasBit h9) ?_
      obtain ⟨r12, h11, h⟩ := Option.bind_eq_some_iff.mp h
      refine WP.callSI [.int r10] dX9_hangs_46 lk_X9_155 rfl (Nat.le_of_ble_eq_true rfl) (by decide) (Nat.le_of_ble_eq_true rfl) rfl (TX9_truth h11) ?_
      cases h
      exact WP.iret dX9_hangs_49 ⟨rfl, rfl⟩
    · rw [if_pos c6] at h
      refine WP.iconst (v := (-1)) dX9_hangs_28 (by decide) ?_
      cases h
      exact WP.iret dX9_hangs_29 ⟨rfl, rfl⟩
/-! X9_hasDraft -/
def rX9_hasDraft : Room := { frames := 0, cells := 0, slots := 0, locals := 0 }
def FX9_hasDraft (x1 : Int32) (M : Mm) : Option Int32 :=
  (if x1 < 0 then some 0 else (if 4 ≤ x1 then some 0 else some 1))
theorem eFX9_hasDraft (x1 : Int32) (M : Mm) : FX9_hasDraft x1 M = (if x1 < 0 then some 0 else (if 4 ≤ x1 then some 0 else some 1)) := rfl
set_option maxRecDepth 20000 in
theorem TX9_hasDraft {l : Launch} {G : va_G} {tc : Nat → ClassId} {D : Nat → Nat} {x1 : Int32} {M : Mm} {R : Int32} (h : FX9_hasDraft x1 M = some R) : WP l G tc D lay (fun _ => True) yX9_hasDraft.cls cX9_hasDraft 2 rX9_hasDraft (.code yX9_hasDraft cX9_hasDraft 2 (some .boolean)) 0 (entL 2 [.ref 0, .int x1]) [] M (RetQ cX9_hasDraft (some .boolean) (RQI R M)) := by
  show WP l G tc D lay (fun _ => True) RX9 cX9_hasDraft 2 rX9_hasDraft (.code yX9_hasDraft cX9_hasDraft 2 (some .boolean)) 0 [some (.ref 0), some (.int x1)] [] M (RetQ cX9_hasDraft (some .boolean) (RQI R M))
  unfold FX9_hasDraft at h
  refine WP.iload_n dX9_hasDraft_0 rfl rfl ?_
  refine WP.if_lt (tgt := 13) dX9_hasDraft_1 (by decide) (fun c1 => ?_) (fun c1 => ?_)
  · rw [if_pos c1] at h
    refine WP.iconst (v := 0) dX9_hasDraft_13 (by decide) ?_
    cases h
    exact WP.zret dX9_hasDraft_14 (by decide) ⟨rfl, rfl⟩
  · rw [if_neg c1] at h
    refine WP.iload_n dX9_hasDraft_4 rfl rfl ?_
    refine WP.iconst (v := 4) dX9_hasDraft_5 (by decide) ?_
    refine WP.icmp_ge (tgt := 13) dX9_hasDraft_6 (by decide) (fun c2 => ?_) (fun c2 => ?_)
    · rw [if_pos c2] at h
      refine WP.iconst (v := 0) dX9_hasDraft_13 (by decide) ?_
      cases h
      exact WP.zret dX9_hasDraft_14 (by decide) ⟨rfl, rfl⟩
    · rw [if_neg c2] at h
      refine WP.iconst (v := 1) dX9_hasDraft_9 (by decide) ?_
      refine WP.goto (tgt := 14) dX9_hasDraft_10 (by decide) ?_
      cases h
      exact WP.zret dX9_hasDraft_14 (by decide) ⟨rfl, rfl⟩
/-! X9_hasPlace -/
def rX9_hasPlace : Room := { frames := 1, cells := 0, slots := 0, locals := 21 }
def FX9_hasPlace (x1 : Int32) (x2 : Int32) (M : Mm) : Option Int32 :=
  (FX9_hasDraft x1 M).bind fun r2 => (if r2 = 0 then some 0 else (FX0_has x2 M).bind fun r5 => (if r5 = 0 then some 0 else some 1))
theorem eFX9_hasPlace (x1 : Int32) (x2 : Int32) (M : Mm) : FX9_hasPlace x1 x2 M = (FX9_hasDraft x1 M).bind fun r2 => (if r2 = 0 then some 0 else (FX0_has x2 M).bind fun r5 => (if r5 = 0 then some 0 else some 1)) := rfl
set_option maxRecDepth 20000 in
theorem TX9_hasPlace {l : Launch} {G : va_G} {tc : Nat → ClassId} {D : Nat → Nat} {x1 : Int32} {x2 : Int32} {M : Mm} {R : Int32} (h : FX9_hasPlace x1 x2 M = some R) : WP l G tc D lay (fun _ => True) yX9_hasPlace.cls cX9_hasPlace 3 rX9_hasPlace (.code yX9_hasPlace cX9_hasPlace 3 (some .boolean)) 0 (entL 3 [.ref 0, .int x1, .int x2]) [] M (RetQ cX9_hasPlace (some .boolean) (RQI R M)) := by
  show WP l G tc D lay (fun _ => True) RX9 cX9_hasPlace 3 rX9_hasPlace (.code yX9_hasPlace cX9_hasPlace 3 (some .boolean)) 0 [some (.ref 0), some (.int x1), some (.int x2)] [] M (RetQ cX9_hasPlace (some .boolean) (RQI R M))
  unfold FX9_hasPlace at h
  refine WP.aload_n dX9_hasPlace_0 rfl rfl ?_
  refine WP.iload_n dX9_hasPlace_1 rfl rfl ?_
  obtain ⟨r2, h1, h⟩ := Option.bind_eq_some_iff.mp h
  refine WP.callVI [.int x1] dX9_hasPlace_2 lk_X9_182 rfl rfl rfl (Nat.le_of_ble_eq_true rfl) (by decide) (Nat.le_of_ble_eq_true rfl) rfl (TX9_hasDraft h1) ?_
  refine WP.if_eq (tgt := 26) dX9_hasPlace_5 (by decide) (fun c3 => ?_) (fun c3 => ?_)
  · rw [if_pos c3] at h
    refine WP.iconst (v := 0) dX9_hasPlace_26 (by decide) ?_
    cases h
    exact WP.zret dX9_hasPlace_27 (by decide) ⟨rfl, rfl⟩
  · rw [if_neg c3] at h
    refine WP.aload_n dX9_hasPlace_8 rfl rfl ?_
    refine WP.getR (j := 0) dX9_hasPlace_9 rfl rfl in_X9 (by decide) wd_311 rfl ?_
    refine WP.getR (j := 0) dX9_hasPlace_12 rfl rfl in_X2 (by decide) wd_161 rfl ?_
    refine WP.iload_n dX9_hasPlace_15 rfl rfl ?_
    obtain ⟨r5, h4, h⟩ := Option.bind_eq_some_iff.mp h
    refine WP.callVI [.int x2] dX9_hasPlace_16 lk_X9_98 rfl rfl rfl (Nat.le_of_ble_eq_true rfl) (by decide) (Nat.le_of_ble_eq_true rfl) rfl (TX0_has h4) ?_
    refine WP.if_eq (tgt := 26) dX9_hasPlace_19 (by decide) (fun c6 => ?_) (fun c6 => ?_)
    · rw [if_pos c6] at h
      refine WP.iconst (v := 0) dX9_hasPlace_26 (by decide) ?_
      cases h
      exact WP.zret dX9_hasPlace_27 (by decide) ⟨rfl, rfl⟩
    · rw [if_neg c6] at h
      refine WP.iconst (v := 1) dX9_hasPlace_22 (by decide) ?_
      refine WP.goto (tgt := 27) dX9_hasPlace_23 (by decide) ?_
      cases h
      exact WP.zret dX9_hasPlace_27 (by decide) ⟨rfl, rfl⟩
/-! X9_lockedBits -/
def rX9_lockedBits : Room := { frames := 1, cells := 0, slots := 0, locals := 23 }
def FX9_lockedBits (N : Nat) (x1 : Int32) (M : Mm) : Option Int32 :=
  (FX5_unbrokenBits N x1 M).bind fun r2 => (FX0_askedBits N M).bind fun r4 => some (r2 &&& r4)
theorem eFX9_lockedBits (N : Nat) (x1 : Int32) (M : Mm) : FX9_lockedBits N x1 M = (FX5_unbrokenBits N x1 M).bind fun r2 => (FX0_askedBits N M).bind fun r4 => some (r2 &&& r4) := rfl
set_option maxRecDepth 20000 in
theorem TX9_lockedBits {l : Launch} {G : va_G} {tc : Nat → ClassId} {D : Nat → Nat} {N : Nat} {x1 : Int32} {M : Mm} {R : Int32} (h : FX9_lockedBits N x1 M = some R) : WP l G tc D lay (fun _ => True) yX9_lockedBits.cls cX9_lockedBits 2 rX9_lockedBits (.code yX9_lockedBits cX9_lockedBits 2 (some .int)) 0 (entL 2 [.ref 0, .int x1]) [] M (RetQ cX9_lockedBits (some .int) (RQI R M)) := by
  show WP l G tc D lay (fun _ => True) RX9 cX9_lockedBits 2 rX9_lockedBits (.code yX9_lockedBits cX9_lockedBits 2 (some .int)) 0 [some (.ref 0), some (.int x1)] [] M (RetQ cX9_lockedBits (some .int) (RQI R M))
  unfold FX9_lockedBits at h
  refine WP.aload_n dX9_lockedBits_0 rfl rfl ?_
  refine WP.getR (j := 5) dX9_lockedBits_1 rfl rfl in_X9 (by decide) wd_316 rfl ?_
  refine WP.iload_n dX9_lockedBits_4 rfl rfl ?_
  obtain ⟨r2, h1, h⟩ := Option.bind_eq_some_iff.mp h
  refine WP.callVI [.int x1] dX9_lockedBits_5 lk_X9_251 rfl rfl rfl (Nat.le_of_ble_eq_true rfl) (by decide) (Nat.le_of_ble_eq_true rfl) rfl (TX5_unbrokenBits h1) ?_
  refine WP.aload_n dX9_lockedBits_8 rfl rfl ?_
  refine WP.getR (j := 0) dX9_lockedBits_9 rfl rfl in_X9 (by decide) wd_311 rfl ?_
  refine WP.getR (j := 0) dX9_lockedBits_12 rfl rfl in_X2 (by decide) wd_161 rfl ?_
  obtain ⟨r4, h3, h⟩ := Option.bind_eq_some_iff.mp h
  refine WP.callVI [] dX9_lockedBits_15 lk_X9_231 rfl rfl rfl (Nat.le_of_ble_eq_true rfl) (by decide) (Nat.le_of_ble_eq_true rfl) rfl (TX0_askedBits h3) ?_
  refine WP.iand dX9_lockedBits_18 ?_
  cases h
  exact WP.iret dX9_lockedBits_19 ⟨rfl, rfl⟩
/-! X9_answer -/
def rX9_answer : Room := { frames := 2, cells := 0, slots := 0, locals := 44 }
def FX9_answer (N : Nat) (x1 : Int32) (x2 : Int32) (x3 : Int32) (M : Mm) : Option (Int32 × Mm) :=
  (FX9_hasPlace x1 x2 M).bind fun r2 => (if r2 = 0 then some ((-1), M) else (rdI M 5 12 x2).bind fun v4 => (if v4 = 0 then (FX0_inSpan x2 x3 M).bind fun r8 => (if r8 = 0 then some ((-2), M) else (FX9_lockedBits N x1 M).bind fun r11 => (FX9_hasBit r11 x2 M).bind fun r13 => (if r13 = 0 then (ckR 33 4 x1).bind fun k15 => (wrI M k15 12 x2 x3).bind fun M17 => (FX0_hangersOn N x2 M17).bind fun r20 => some (r20, M17) else some ((-3), M))) else some ((-3), M)))
theorem eFX9_answer (N : Nat) (x1 : Int32) (x2 : Int32) (x3 : Int32) (M : Mm) : FX9_answer N x1 x2 x3 M = (FX9_hasPlace x1 x2 M).bind fun r2 => (if r2 = 0 then some ((-1), M) else (rdI M 5 12 x2).bind fun v4 => (if v4 = 0 then (FX0_inSpan x2 x3 M).bind fun r8 => (if r8 = 0 then some ((-2), M) else (FX9_lockedBits N x1 M).bind fun r11 => (FX9_hasBit r11 x2 M).bind fun r13 => (if r13 = 0 then (ckR 33 4 x1).bind fun k15 => (wrI M k15 12 x2 x3).bind fun M17 => (FX0_hangersOn N x2 M17).bind fun r20 => some (r20, M17) else some ((-3), M))) else some ((-3), M))) := rfl
set_option maxRecDepth 20000 in
theorem TX9_answer {l : Launch} {G : va_G} {tc : Nat → ClassId} {D : Nat → Nat} {N : Nat} {x1 : Int32} {x2 : Int32} {x3 : Int32} {M : Mm} {R : (Int32 × Mm)} (h : FX9_answer N x1 x2 x3 M = some R) : WP l G tc D lay (fun _ => True) yX9_answer.cls cX9_answer 4 rX9_answer (.code yX9_answer cX9_answer 4 (some .int)) 0 (entL 4 [.ref 0, .int x1, .int x2, .int x3]) [] M (RetQ cX9_answer (some .int) (RQI R.1 R.2)) := by
  show WP l G tc D lay (fun _ => True) RX9 cX9_answer 4 rX9_answer (.code yX9_answer cX9_answer 4 (some .int)) 0 [some (.ref 0), some (.int x1), some (.int x2), some (.int x3)] [] M (RetQ cX9_answer (some .int) (RQI R.1 R.2))
  unfold FX9_answer at h
  refine WP.aload_n dX9_answer_0 rfl rfl ?_
  refine WP.iload_n dX9_answer_1 rfl rfl ?_
  refine WP.iload_n dX9_answer_2 rfl rfl ?_
  obtain ⟨r2, h1, h⟩ := Option.bind_eq_some_iff.mp h
  refine WP.callVI [.int x1, .int x2] dX9_answer_3 lk_X9_159 rfl rfl rfl (Nat.le_of_ble_eq_true rfl) (by decide) (Nat.le_of_ble_eq_true rfl) rfl (TX9_hasPlace h1) ?_
  refine WP.if_ne (tgt := 11) dX9_answer_6 (by decide) (fun c3 => ?_) (fun c3 => ?_)
  · rw [if_neg c3] at h
    refine WP.aload_n dX9_answer_11 rfl rfl ?_
    refine WP.getR (j := 0) dX9_answer_12 rfl rfl in_X9 (by decide) wd_311 rfl ?_
    refine WP.getR (j := 0) dX9_answer_15 rfl rfl in_X2 (by decide) wd_161 rfl ?_
    refine WP.getR (j := 2) dX9_answer_18 rfl rfl in_X0 (by decide) wd_91 rfl ?_
    refine WP.iload_n dX9_answer_21 rfl rfl ?_
    obtain ⟨v4, h5, h⟩ := Option.bind_eq_some_iff.mp h
    refine WP.zaldQ dX9_answer_22 rfl h5 ?_
    refine WP.if_eq (tgt := 29) dX9_answer_23 (by decide) (fun c6 => ?_) (fun c6 => ?_)
    · rw [if_pos c6] at h
      refine WP.aload_n dX9_answer_29 rfl rfl ?_
      refine WP.getR (j := 0) dX9_answer_30 rfl rfl in_X9 (by decide) wd_311 rfl ?_
      refine WP.getR (j := 0) dX9_answer_33 rfl rfl in_X2 (by decide) wd_161 rfl ?_
      refine WP.iload_n dX9_answer_36 rfl rfl ?_
      refine WP.iload_n dX9_answer_37 rfl rfl ?_
      obtain ⟨r8, h7, h⟩ := Option.bind_eq_some_iff.mp h
      refine WP.callVI [.int x2, .int x3] dX9_answer_38 lk_X9_162 rfl rfl rfl (Nat.le_of_ble_eq_true rfl) (by decide) (Nat.le_of_ble_eq_true rfl) rfl (TX0_inSpan h7) ?_
      refine WP.if_ne (tgt := 47) dX9_answer_41 (by decide) (fun c9 => ?_) (fun c9 => ?_)
      · rw [if_neg c9] at h
        refine WP.aload_n dX9_answer_47 rfl rfl ?_
        refine WP.iload_n dX9_answer_48 rfl rfl ?_
        obtain ⟨r11, h10, h⟩ := Option.bind_eq_some_iff.mp h
        refine WP.callVI [.int x1] dX9_answer_49 lk_X9_165 rfl rfl rfl (Nat.le_of_ble_eq_true rfl) (by decide) (Nat.le_of_ble_eq_true rfl) rfl (TX9_lockedBits h10) ?_
        refine WP.iload_n dX9_answer_52 rfl rfl ?_
        obtain ⟨r13, h12, h⟩ := Option.bind_eq_some_iff.mp h
        refine WP.callSI [.int r11, .int x2] dX9_answer_53 lk_X9_115 rfl (Nat.le_of_ble_eq_true rfl) (by decide) (Nat.le_of_ble_eq_true rfl) rfl (TX9_hasBit h12) ?_
        refine WP.if_eq (tgt := 62) dX9_answer_56 (by decide) (fun c14 => ?_) (fun c14 => ?_)
        · rw [if_pos c14] at h
          refine WP.aload_n dX9_answer_62 rfl rfl ?_
          refine WP.getR (j := 2) dX9_answer_63 rfl rfl in_X9 (by decide) wd_313 rfl ?_
          refine WP.iload_n dX9_answer_66 rfl rfl ?_
          obtain ⟨k15, h16, h⟩ := Option.bind_eq_some_iff.mp h
          refine WP.aaldQ (base := 33) (n := 4) dX9_answer_67 rfl rfl h16 ?_
          have hk15 := rows_32 h16
          refine WP.iload_n dX9_answer_68 rfl rfl ?_
          refine WP.iload_n dX9_answer_69 rfl rfl ?_
          obtain ⟨M17, h18, h⟩ := Option.bind_eq_some_iff.mp h
          refine WP.iastQ dX9_answer_70 hk15 h18 ?_
          refine WP.aload_n dX9_answer_71 rfl rfl ?_
          refine WP.getR (j := 0) dX9_answer_72 rfl rfl in_X9 (by decide) wd_311 rfl ?_
          refine WP.getR (j := 0) dX9_answer_75 rfl rfl in_X2 (by decide) wd_161 rfl ?_
          refine WP.iload_n dX9_answer_78 rfl rfl ?_
          obtain ⟨r20, h19, h⟩ := Option.bind_eq_some_iff.mp h
          refine WP.callVI [.int x2] dX9_answer_79 lk_X9_152 rfl rfl rfl (Nat.le_of_ble_eq_true rfl) (by decide) (Nat.le_of_ble_eq_true rfl) rfl (TX0_hangersOn h19) ?_
          cases h
          exact WP.iret dX9_answer_82 ⟨rfl, rfl⟩
        · rw [if_neg c14] at h
          refine WP.bipush (v := (-3)) dX9_answer_59 (by decide) ?_
          cases h
          exact WP.iret dX9_answer_61 ⟨rfl, rfl⟩
      · rw [if_pos c9] at h
        refine WP.bipush (v := (-2)) dX9_answer_44 (by decide) ?_
        cases h
        exact WP.iret dX9_answer_46 ⟨rfl, rfl⟩
    · rw [if_neg c6] at h
      refine WP.bipush (v := (-3)) dX9_answer_26 (by decide) ?_
      cases h
      exact WP.iret dX9_answer_28 ⟨rfl, rfl⟩
  · rw [if_pos c3] at h
    refine WP.iconst (v := (-1)) dX9_answer_9 (by decide) ?_
    cases h
    exact WP.iret dX9_answer_10 ⟨rfl, rfl⟩
/-! X9_clear -/
def rX9_clear : Room := { frames := 2, cells := 0, slots := 0, locals := 44 }
def BX9_clear_59 (N : Nat) (a1 : Int32) (a2 : Int32) (t0 : Int32) (M : Mm) : Option (Int32 × Mm) :=
  (FX9_truth t0 M).bind fun r2 => (ckR 33 4 a1).bind fun k3 => (wrI M k3 12 a2 (-2000000000)).bind fun M5 => some (r2, M5)
def FX9_clear (N : Nat) (x1 : Int32) (x2 : Int32) (M : Mm) : Option (Int32 × Mm) :=
  (FX9_hasPlace x1 x2 M).bind fun r2 => (if r2 = 0 then some ((-1), M) else (rdI M 5 12 x2).bind fun v4 => (if v4 = 0 then (FX9_lockedBits N x1 M).bind fun r8 => (FX9_hasBit r8 x2 M).bind fun r10 => (if r10 = 0 then (ckR 33 4 x1).bind fun k12 => (rdI M k12 12 x2).bind fun v14 => (if v14 = (-2000000000) then BX9_clear_59 N x1 x2 0 M else BX9_clear_59 N x1 x2 1 M) else some ((-3), M)) else some ((-3), M)))
theorem eBX9_clear_59 (N : Nat) (a1 : Int32) (a2 : Int32) (t0 : Int32) (M : Mm) : BX9_clear_59 N a1 a2 t0 M = (FX9_truth t0 M).bind fun r2 => (ckR 33 4 a1).bind fun k3 => (wrI M k3 12 a2 (-2000000000)).bind fun M5 => some (r2, M5) := rfl
theorem eFX9_clear (N : Nat) (x1 : Int32) (x2 : Int32) (M : Mm) : FX9_clear N x1 x2 M = (FX9_hasPlace x1 x2 M).bind fun r2 => (if r2 = 0 then some ((-1), M) else (rdI M 5 12 x2).bind fun v4 => (if v4 = 0 then (FX9_lockedBits N x1 M).bind fun r8 => (FX9_hasBit r8 x2 M).bind fun r10 => (if r10 = 0 then (ckR 33 4 x1).bind fun k12 => (rdI M k12 12 x2).bind fun v14 => (if v14 = (-2000000000) then BX9_clear_59 N x1 x2 0 M else BX9_clear_59 N x1 x2 1 M) else some ((-3), M)) else some ((-3), M))) := rfl
set_option maxRecDepth 20000 in
theorem tX9_clear_59 {l : Launch} {G : va_G} {tc : Nat → ClassId} {D : Nat → Nat} {N : Nat} {a1 : Int32} {a2 : Int32} {t0 : Int32} {M : Mm} {R : (Int32 × Mm)} (h : BX9_clear_59 N a1 a2 t0 M = some R) : WP l G tc D lay (fun _ => True) RX9 cX9_clear 4 rX9_clear (.code yX9_clear cX9_clear 4 (some .int)) 59 [some (.ref 0), some (.int a1), some (.int a2), none] [.int t0] M (RetQ cX9_clear (some .int) (RQI R.1 R.2)) := by
  unfold BX9_clear_59 at h
  obtain ⟨r2, h1, h⟩ := Option.bind_eq_some_iff.mp h
  refine WP.callSI [.int t0] dX9_clear_59 lk_X9_155 rfl (Nat.le_of_ble_eq_true rfl) (by decide) (Nat.le_of_ble_eq_true rfl) rfl (TX9_truth h1) ?_
  refine WP.istore_n dX9_clear_62 rfl (by decide) rfl rfl ?_
  refine WP.aload_n dX9_clear_63 rfl rfl ?_
  refine WP.getR (j := 2) dX9_clear_64 rfl rfl in_X9 (by decide) wd_313 rfl ?_
  refine WP.iload_n dX9_clear_67 rfl rfl ?_
  obtain ⟨k3, h4, h⟩ := Option.bind_eq_some_iff.mp h
  refine WP.aaldQ (base := 33) (n := 4) dX9_clear_68 rfl rfl h4 ?_
  have hk3 := rows_32 h4
  refine WP.iload_n dX9_clear_69 rfl rfl ?_
  refine WP.ldc (v := (-2000000000)) dX9_clear_70 wd_202 ?_
  obtain ⟨M5, h6, h⟩ := Option.bind_eq_some_iff.mp h
  refine WP.iastQ dX9_clear_72 hk3 h6 ?_
  refine WP.iload_n dX9_clear_73 rfl rfl ?_
  cases h
  exact WP.iret dX9_clear_74 ⟨rfl, rfl⟩
set_option maxRecDepth 20000 in
theorem TX9_clear {l : Launch} {G : va_G} {tc : Nat → ClassId} {D : Nat → Nat} {N : Nat} {x1 : Int32} {x2 : Int32} {M : Mm} {R : (Int32 × Mm)} (h : FX9_clear N x1 x2 M = some R) : WP l G tc D lay (fun _ => True) yX9_clear.cls cX9_clear 4 rX9_clear (.code yX9_clear cX9_clear 4 (some .int)) 0 (entL 4 [.ref 0, .int x1, .int x2]) [] M (RetQ cX9_clear (some .int) (RQI R.1 R.2)) := by
  show WP l G tc D lay (fun _ => True) RX9 cX9_clear 4 rX9_clear (.code yX9_clear cX9_clear 4 (some .int)) 0 [some (.ref 0), some (.int x1), some (.int x2), none] [] M (RetQ cX9_clear (some .int) (RQI R.1 R.2))
  unfold FX9_clear at h
  refine WP.aload_n dX9_clear_0 rfl rfl ?_
  refine WP.iload_n dX9_clear_1 rfl rfl ?_
  refine WP.iload_n dX9_clear_2 rfl rfl ?_
  obtain ⟨r2, h1, h⟩ := Option.bind_eq_some_iff.mp h
  refine WP.callVI [.int x1, .int x2] dX9_clear_3 lk_X9_159 rfl rfl rfl (Nat.le_of_ble_eq_true rfl) (by decide) (Nat.le_of_ble_eq_true rfl) rfl (TX9_hasPlace h1) ?_
  refine WP.if_ne (tgt := 11) dX9_clear_6 (by decide) (fun c3 => ?_) (fun c3 => ?_)
  · rw [if_neg c3] at h
    refine WP.aload_n dX9_clear_11 rfl rfl ?_
    refine WP.getR (j := 0) dX9_clear_12 rfl rfl in_X9 (by decide) wd_311 rfl ?_
    refine WP.getR (j := 0) dX9_clear_15 rfl rfl in_X2 (by decide) wd_161 rfl ?_
    refine WP.getR (j := 2) dX9_clear_18 rfl rfl in_X0 (by decide) wd_91 rfl ?_
    refine WP.iload_n dX9_clear_21 rfl rfl ?_
    obtain ⟨v4, h5, h⟩ := Option.bind_eq_some_iff.mp h
    refine WP.zaldQ dX9_clear_22 rfl h5 ?_
    refine WP.if_ne (tgt := 38) dX9_clear_23 (by decide) (fun c6 => ?_) (fun c6 => ?_)
    · rw [if_neg c6] at h
      refine WP.bipush (v := (-3)) dX9_clear_38 (by decide) ?_
      cases h
      exact WP.iret dX9_clear_40 ⟨rfl, rfl⟩
    · rw [if_pos c6] at h
      refine WP.aload_n dX9_clear_26 rfl rfl ?_
      refine WP.iload_n dX9_clear_27 rfl rfl ?_
      obtain ⟨r8, h7, h⟩ := Option.bind_eq_some_iff.mp h
      refine WP.callVI [.int x1] dX9_clear_28 lk_X9_165 rfl rfl rfl (Nat.le_of_ble_eq_true rfl) (by decide) (Nat.le_of_ble_eq_true rfl) rfl (TX9_lockedBits h7) ?_
      refine WP.iload_n dX9_clear_31 rfl rfl ?_
      obtain ⟨r10, h9, h⟩ := Option.bind_eq_some_iff.mp h
      refine WP.callSI [.int r8, .int x2] dX9_clear_32 lk_X9_115 rfl (Nat.le_of_ble_eq_true rfl) (by decide) (Nat.le_of_ble_eq_true rfl) rfl (TX9_hasBit h9) ?_
      refine WP.if_eq (tgt := 41) dX9_clear_35 (by decide) (fun c11 => ?_) (fun c11 => ?_)
      · rw [if_pos c11] at h
        refine WP.aload_n dX9_clear_41 rfl rfl ?_
        refine WP.getR (j := 2) dX9_clear_42 rfl rfl in_X9 (by decide) wd_313 rfl ?_
        refine WP.iload_n dX9_clear_45 rfl rfl ?_
        obtain ⟨k12, h13, h⟩ := Option.bind_eq_some_iff.mp h
        refine WP.aaldQ (base := 33) (n := 4) dX9_clear_46 rfl rfl h13 ?_
        have hk12 := rows_32 h13
        refine WP.iload_n dX9_clear_47 rfl rfl ?_
        obtain ⟨v14, h15, h⟩ := Option.bind_eq_some_iff.mp h
        refine WP.ialdQ dX9_clear_48 hk12 h15 ?_
        refine WP.ldc (v := (-2000000000)) dX9_clear_49 wd_202 ?_
        refine WP.icmp_eq (tgt := 58) dX9_clear_51 (by decide) (fun c16 => ?_) (fun c16 => ?_)
        · rw [if_pos c16] at h
          refine WP.iconst (v := 0) dX9_clear_58 (by decide) ?_
          refine WP.fgt [true, true, true, false] rfl ?_
          exact tX9_clear_59  h
        · rw [if_neg c16] at h
          refine WP.iconst (v := 1) dX9_clear_54 (by decide) ?_
          refine WP.goto (tgt := 59) dX9_clear_55 (by decide) ?_
          refine WP.fgt [true, true, true, false] rfl ?_
          exact tX9_clear_59  h
      · rw [if_neg c11] at h
        refine WP.bipush (v := (-3)) dX9_clear_38 (by decide) ?_
        cases h
        exact WP.iret dX9_clear_40 ⟨rfl, rfl⟩
  · rw [if_pos c3] at h
    refine WP.iconst (v := (-1)) dX9_clear_9 (by decide) ?_
    cases h
    exact WP.iret dX9_clear_10 ⟨rfl, rfl⟩
/-! X9_kept -/
def rX9_kept : Room := { frames := 5, cells := 0, slots := 0, locals := 112 }
def FX9_kept (N : Nat) (x1 : Int32) (x2 : Int32) (M : Mm) : Option (Int32 × Mm) :=
  (FX9_hasPlace x1 x2 M).bind fun r2 => (if r2 = 0 then some ((-2000000000), M) else (rdI M 5 12 x2).bind fun v4 => (if v4 = 0 then (ckR 33 4 x1).bind fun k17 => (rdI M k17 12 x2).bind fun v19 => some (v19, M) else (ckR 33 4 x1).bind fun k7 => (FX6_look N 37 k7 M).bind fun M10 => (ckR 7 12 x2).bind fun k11 => (rdI M10 k11 4 3).bind fun v13 => (FX6_valueOf 37 v13 M10).bind fun r16 => some (r16, M10)))
theorem eFX9_kept (N : Nat) (x1 : Int32) (x2 : Int32) (M : Mm) : FX9_kept N x1 x2 M = (FX9_hasPlace x1 x2 M).bind fun r2 => (if r2 = 0 then some ((-2000000000), M) else (rdI M 5 12 x2).bind fun v4 => (if v4 = 0 then (ckR 33 4 x1).bind fun k17 => (rdI M k17 12 x2).bind fun v19 => some (v19, M) else (ckR 33 4 x1).bind fun k7 => (FX6_look N 37 k7 M).bind fun M10 => (ckR 7 12 x2).bind fun k11 => (rdI M10 k11 4 3).bind fun v13 => (FX6_valueOf 37 v13 M10).bind fun r16 => some (r16, M10))) := rfl
set_option maxRecDepth 20000 in
theorem TX9_kept {l : Launch} {G : va_G} {tc : Nat → ClassId} {D : Nat → Nat} {N : Nat} {x1 : Int32} {x2 : Int32} {M : Mm} {R : (Int32 × Mm)} (h : FX9_kept N x1 x2 M = some R) : WP l G tc D lay (fun _ => True) yX9_kept.cls cX9_kept 3 rX9_kept (.code yX9_kept cX9_kept 3 (some .int)) 0 (entL 3 [.ref 0, .int x1, .int x2]) [] M (RetQ cX9_kept (some .int) (RQI R.1 R.2)) := by
  show WP l G tc D lay (fun _ => True) RX9 cX9_kept 3 rX9_kept (.code yX9_kept cX9_kept 3 (some .int)) 0 [some (.ref 0), some (.int x1), some (.int x2)] [] M (RetQ cX9_kept (some .int) (RQI R.1 R.2))
  unfold FX9_kept at h
  refine WP.aload_n dX9_kept_0 rfl rfl ?_
  refine WP.iload_n dX9_kept_1 rfl rfl ?_
  refine WP.iload_n dX9_kept_2 rfl rfl ?_
  obtain ⟨r2, h1, h⟩ := Option.bind_eq_some_iff.mp h
  refine WP.callVI [.int x1, .int x2] dX9_kept_3 lk_X9_159 rfl rfl rfl (Nat.le_of_ble_eq_true rfl) (by decide) (Nat.le_of_ble_eq_true rfl) rfl (TX9_hasPlace h1) ?_
  refine WP.if_ne (tgt := 12) dX9_kept_6 (by decide) (fun c3 => ?_) (fun c3 => ?_)
  · rw [if_neg c3] at h
    refine WP.aload_n dX9_kept_12 rfl rfl ?_
    refine WP.getR (j := 0) dX9_kept_13 rfl rfl in_X9 (by decide) wd_311 rfl ?_
    refine WP.getR (j := 0) dX9_kept_16 rfl rfl in_X2 (by decide) wd_161 rfl ?_
    refine WP.getR (j := 2) dX9_kept_19 rfl rfl in_X0 (by decide) wd_91 rfl ?_
    refine WP.iload_n dX9_kept_22 rfl rfl ?_
    obtain ⟨v4, h5, h⟩ := Option.bind_eq_some_iff.mp h
    refine WP.zaldQ dX9_kept_23 rfl h5 ?_
    refine WP.if_ne (tgt := 36) dX9_kept_24 (by decide) (fun c6 => ?_) (fun c6 => ?_)
    · rw [if_neg c6] at h
      refine WP.aload_n dX9_kept_36 rfl rfl ?_
      refine WP.getR (j := 3) dX9_kept_37 rfl rfl in_X9 (by decide) wd_314 rfl ?_
      refine WP.aload_n dX9_kept_40 rfl rfl ?_
      refine WP.getR (j := 0) dX9_kept_41 rfl rfl in_X9 (by decide) wd_311 rfl ?_
      refine WP.aload_n dX9_kept_44 rfl rfl ?_
      refine WP.getR (j := 2) dX9_kept_45 rfl rfl in_X9 (by decide) wd_313 rfl ?_
      refine WP.iload_n dX9_kept_48 rfl rfl ?_
      obtain ⟨k7, h8, h⟩ := Option.bind_eq_some_iff.mp h
      refine WP.aaldQ (base := 33) (n := 4) dX9_kept_49 rfl rfl h8 ?_
      have hk7 := rows_32 h8
      obtain ⟨M10, h9, h⟩ := Option.bind_eq_some_iff.mp h
      refine WP.callVV [.ref 1, .ref k7] dX9_kept_50 lk_X9_168 rfl rfl rfl (Nat.le_of_ble_eq_true rfl) (by decide) (Nat.le_of_ble_eq_true rfl) rfl (TX6_look (s := 37) (k2 := k7) rfl rfl rfl rfl hk7 h9) ?_
      refine WP.aload_n dX9_kept_53 rfl rfl ?_
      refine WP.getR (j := 3) dX9_kept_54 rfl rfl in_X9 (by decide) wd_314 rfl ?_
      refine WP.aload_n dX9_kept_57 rfl rfl ?_
      refine WP.getR (j := 0) dX9_kept_58 rfl rfl in_X9 (by decide) wd_311 rfl ?_
      refine WP.getR (j := 0) dX9_kept_61 rfl rfl in_X2 (by decide) wd_161 rfl ?_
      refine WP.getR (j := 3) dX9_kept_64 rfl rfl in_X0 (by decide) wd_97 rfl ?_
      refine WP.iload_n dX9_kept_67 rfl rfl ?_
      obtain ⟨k11, h12, h⟩ := Option.bind_eq_some_iff.mp h
      refine WP.aaldQ (base := 7) (n := 12) dX9_kept_68 rfl rfl h12 ?_
      have hk11 := rows_6 h12
      refine WP.iconst (v := 3) dX9_kept_69 (by decide) ?_
      obtain ⟨v13, h14, h⟩ := Option.bind_eq_some_iff.mp h
      refine WP.ialdQ dX9_kept_70 hk11 h14 ?_
      obtain ⟨r16, h15, h⟩ := Option.bind_eq_some_iff.mp h
      refine WP.callVI [.int v13] dX9_kept_71 lk_X9_172 rfl rfl rfl (Nat.le_of_ble_eq_true rfl) (by decide) (Nat.le_of_ble_eq_true rfl) rfl (TX6_valueOf (s := 37) rfl rfl rfl rfl h15) ?_
      cases h
      exact WP.iret dX9_kept_74 ⟨rfl, rfl⟩
    · rw [if_pos c6] at h
      refine WP.aload_n dX9_kept_27 rfl rfl ?_
      refine WP.getR (j := 2) dX9_kept_28 rfl rfl in_X9 (by decide) wd_313 rfl ?_
      refine WP.iload_n dX9_kept_31 rfl rfl ?_
      obtain ⟨k17, h18, h⟩ := Option.bind_eq_some_iff.mp h
      refine WP.aaldQ (base := 33) (n := 4) dX9_kept_32 rfl rfl h18 ?_
      have hk17 := rows_32 h18
      refine WP.iload_n dX9_kept_33 rfl rfl ?_
      obtain ⟨v19, h20, h⟩ := Option.bind_eq_some_iff.mp h
      refine WP.ialdQ dX9_kept_34 hk17 h20 ?_
      cases h
      exact WP.iret dX9_kept_35 ⟨rfl, rfl⟩
  · rw [if_pos c3] at h
    refine WP.ldc (v := (-2000000000)) dX9_kept_9 wd_202 ?_
    cases h
    exact WP.iret dX9_kept_11 ⟨rfl, rfl⟩
/-! X9_counts -/
def rX9_counts : Room := { frames := 5, cells := 0, slots := 0, locals := 112 }
def FX9_counts (N : Nat) (x1 : Int32) (x2 : Int32) (M : Mm) : Option (Int32 × Mm) :=
  (FX9_hasPlace x1 x2 M).bind fun r2 => (if r2 = 0 then some ((-2000000000), M) else (ckR 33 4 x1).bind fun k4 => (FX6_look N 37 k4 M).bind fun M7 => (rdI M7 40 12 x2).bind fun v8 => some (v8, M7))
theorem eFX9_counts (N : Nat) (x1 : Int32) (x2 : Int32) (M : Mm) : FX9_counts N x1 x2 M = (FX9_hasPlace x1 x2 M).bind fun r2 => (if r2 = 0 then some ((-2000000000), M) else (ckR 33 4 x1).bind fun k4 => (FX6_look N 37 k4 M).bind fun M7 => (rdI M7 40 12 x2).bind fun v8 => some (v8, M7)) := rfl
set_option maxRecDepth 20000 in
theorem TX9_counts {l : Launch} {G : va_G} {tc : Nat → ClassId} {D : Nat → Nat} {N : Nat} {x1 : Int32} {x2 : Int32} {M : Mm} {R : (Int32 × Mm)} (h : FX9_counts N x1 x2 M = some R) : WP l G tc D lay (fun _ => True) yX9_counts.cls cX9_counts 3 rX9_counts (.code yX9_counts cX9_counts 3 (some .int)) 0 (entL 3 [.ref 0, .int x1, .int x2]) [] M (RetQ cX9_counts (some .int) (RQI R.1 R.2)) := by
  show WP l G tc D lay (fun _ => True) RX9 cX9_counts 3 rX9_counts (.code yX9_counts cX9_counts 3 (some .int)) 0 [some (.ref 0), some (.int x1), some (.int x2)] [] M (RetQ cX9_counts (some .int) (RQI R.1 R.2))
  unfold FX9_counts at h
  refine WP.aload_n dX9_counts_0 rfl rfl ?_
  refine WP.iload_n dX9_counts_1 rfl rfl ?_
  refine WP.iload_n dX9_counts_2 rfl rfl ?_
  obtain ⟨r2, h1, h⟩ := Option.bind_eq_some_iff.mp h
  refine WP.callVI [.int x1, .int x2] dX9_counts_3 lk_X9_159 rfl rfl rfl (Nat.le_of_ble_eq_true rfl) (by decide) (Nat.le_of_ble_eq_true rfl) rfl (TX9_hasPlace h1) ?_
  refine WP.if_ne (tgt := 12) dX9_counts_6 (by decide) (fun c3 => ?_) (fun c3 => ?_)
  · rw [if_neg c3] at h
    refine WP.aload_n dX9_counts_12 rfl rfl ?_
    refine WP.getR (j := 3) dX9_counts_13 rfl rfl in_X9 (by decide) wd_314 rfl ?_
    refine WP.aload_n dX9_counts_16 rfl rfl ?_
    refine WP.getR (j := 0) dX9_counts_17 rfl rfl in_X9 (by decide) wd_311 rfl ?_
    refine WP.aload_n dX9_counts_20 rfl rfl ?_
    refine WP.getR (j := 2) dX9_counts_21 rfl rfl in_X9 (by decide) wd_313 rfl ?_
    refine WP.iload_n dX9_counts_24 rfl rfl ?_
    obtain ⟨k4, h5, h⟩ := Option.bind_eq_some_iff.mp h
    refine WP.aaldQ (base := 33) (n := 4) dX9_counts_25 rfl rfl h5 ?_
    have hk4 := rows_32 h5
    obtain ⟨M7, h6, h⟩ := Option.bind_eq_some_iff.mp h
    refine WP.callVV [.ref 1, .ref k4] dX9_counts_26 lk_X9_168 rfl rfl rfl (Nat.le_of_ble_eq_true rfl) (by decide) (Nat.le_of_ble_eq_true rfl) rfl (TX6_look (s := 37) (k2 := k4) rfl rfl rfl rfl hk4 h6) ?_
    refine WP.aload_n dX9_counts_29 rfl rfl ?_
    refine WP.getR (j := 3) dX9_counts_30 rfl rfl in_X9 (by decide) wd_314 rfl ?_
    refine WP.getR (j := 2) dX9_counts_33 rfl rfl in_X6 (by decide) wd_217 rfl ?_
    refine WP.iload_n dX9_counts_36 rfl rfl ?_
    obtain ⟨v8, h9, h⟩ := Option.bind_eq_some_iff.mp h
    refine WP.ialdQ dX9_counts_37 rfl h9 ?_
    cases h
    exact WP.iret dX9_counts_38 ⟨rfl, rfl⟩
  · rw [if_pos c3] at h
    refine WP.ldc (v := (-2000000000)) dX9_counts_9 wd_202 ?_
    cases h
    exact WP.iret dX9_counts_11 ⟨rfl, rfl⟩
/-! X9_status -/
def rX9_status : Room := { frames := 5, cells := 0, slots := 0, locals := 112 }
def FX9_status (N : Nat) (x1 : Int32) (x2 : Int32) (M : Mm) : Option (Int32 × Mm) :=
  (FX9_hasPlace x1 x2 M).bind fun r2 => (if r2 = 0 then some ((-1), M) else (ckR 33 4 x1).bind fun k4 => (FX6_look N 37 k4 M).bind fun M7 => (FX6_statusOf 37 x2 M7).bind fun r9 => some (r9, M7))
theorem eFX9_status (N : Nat) (x1 : Int32) (x2 : Int32) (M : Mm) : FX9_status N x1 x2 M = (FX9_hasPlace x1 x2 M).bind fun r2 => (if r2 = 0 then some ((-1), M) else (ckR 33 4 x1).bind fun k4 => (FX6_look N 37 k4 M).bind fun M7 => (FX6_statusOf 37 x2 M7).bind fun r9 => some (r9, M7)) := rfl
set_option maxRecDepth 20000 in
theorem TX9_status {l : Launch} {G : va_G} {tc : Nat → ClassId} {D : Nat → Nat} {N : Nat} {x1 : Int32} {x2 : Int32} {M : Mm} {R : (Int32 × Mm)} (h : FX9_status N x1 x2 M = some R) : WP l G tc D lay (fun _ => True) yX9_status.cls cX9_status 3 rX9_status (.code yX9_status cX9_status 3 (some .int)) 0 (entL 3 [.ref 0, .int x1, .int x2]) [] M (RetQ cX9_status (some .int) (RQI R.1 R.2)) := by
  show WP l G tc D lay (fun _ => True) RX9 cX9_status 3 rX9_status (.code yX9_status cX9_status 3 (some .int)) 0 [some (.ref 0), some (.int x1), some (.int x2)] [] M (RetQ cX9_status (some .int) (RQI R.1 R.2))
  unfold FX9_status at h
  refine WP.aload_n dX9_status_0 rfl rfl ?_
  refine WP.iload_n dX9_status_1 rfl rfl ?_
  refine WP.iload_n dX9_status_2 rfl rfl ?_
  obtain ⟨r2, h1, h⟩ := Option.bind_eq_some_iff.mp h
  refine WP.callVI [.int x1, .int x2] dX9_status_3 lk_X9_159 rfl rfl rfl (Nat.le_of_ble_eq_true rfl) (by decide) (Nat.le_of_ble_eq_true rfl) rfl (TX9_hasPlace h1) ?_
  refine WP.if_ne (tgt := 11) dX9_status_6 (by decide) (fun c3 => ?_) (fun c3 => ?_)
  · rw [if_neg c3] at h
    refine WP.aload_n dX9_status_11 rfl rfl ?_
    refine WP.getR (j := 3) dX9_status_12 rfl rfl in_X9 (by decide) wd_314 rfl ?_
    refine WP.aload_n dX9_status_15 rfl rfl ?_
    refine WP.getR (j := 0) dX9_status_16 rfl rfl in_X9 (by decide) wd_311 rfl ?_
    refine WP.aload_n dX9_status_19 rfl rfl ?_
    refine WP.getR (j := 2) dX9_status_20 rfl rfl in_X9 (by decide) wd_313 rfl ?_
    refine WP.iload_n dX9_status_23 rfl rfl ?_
    obtain ⟨k4, h5, h⟩ := Option.bind_eq_some_iff.mp h
    refine WP.aaldQ (base := 33) (n := 4) dX9_status_24 rfl rfl h5 ?_
    have hk4 := rows_32 h5
    obtain ⟨M7, h6, h⟩ := Option.bind_eq_some_iff.mp h
    refine WP.callVV [.ref 1, .ref k4] dX9_status_25 lk_X9_168 rfl rfl rfl (Nat.le_of_ble_eq_true rfl) (by decide) (Nat.le_of_ble_eq_true rfl) rfl (TX6_look (s := 37) (k2 := k4) rfl rfl rfl rfl hk4 h6) ?_
    refine WP.aload_n dX9_status_28 rfl rfl ?_
    refine WP.getR (j := 3) dX9_status_29 rfl rfl in_X9 (by decide) wd_314 rfl ?_
    refine WP.aload_n dX9_status_32 rfl rfl ?_
    refine WP.getR (j := 0) dX9_status_33 rfl rfl in_X9 (by decide) wd_311 rfl ?_
    refine WP.getR (j := 0) dX9_status_36 rfl rfl in_X2 (by decide) wd_161 rfl ?_
    refine WP.iload_n dX9_status_39 rfl rfl ?_
    obtain ⟨r9, h8, h⟩ := Option.bind_eq_some_iff.mp h
    refine WP.callVI [.ref 2, .int x2] dX9_status_40 lk_X9_178 rfl rfl rfl (Nat.le_of_ble_eq_true rfl) (by decide) (Nat.le_of_ble_eq_true rfl) rfl (TX6_statusOf (s := 37) rfl rfl rfl rfl h8) ?_
    cases h
    exact WP.iret dX9_status_43 ⟨rfl, rfl⟩
  · rw [if_pos c3] at h
    refine WP.iconst (v := (-1)) dX9_status_9 (by decide) ?_
    cases h
    exact WP.iret dX9_status_10 ⟨rfl, rfl⟩
/-! X9_done -/
def rX9_done : Room := { frames := 5, cells := 0, slots := 0, locals := 112 }
def BX9_done_29 (N : Nat) (K29 : Int32 × Mm → Option (Int32 × Mm)) (q : Int32 × Mm) : Option (Int32 × Mm) :=
  (if (q.2.1 2 6) ≤ q.1 then some (1, q.2) else (FX6_statusOf 37 q.1 q.2).bind fun r3 => (if r3 = 2 then some (0, q.2) else (if r3 = 4 then some (0, q.2) else K29 ((q.1 + 1), q.2))))
def FX9_done (N : Nat) (x1 : Int32) (M : Mm) : Option (Int32 × Mm) :=
  (FX9_hasDraft x1 M).bind fun r2 => (if r2 = 0 then some ((-1), M) else (ckR 33 4 x1).bind fun k4 => (FX6_look N 37 k4 M).bind fun M7 => lp (BX9_done_29 N) N (0, M7))
theorem eBX9_done_29 (N : Nat) (K29 : Int32 × Mm → Option (Int32 × Mm)) (q : Int32 × Mm) : BX9_done_29 N K29 q = (if (q.2.1 2 6) ≤ q.1 then some (1, q.2) else (FX6_statusOf 37 q.1 q.2).bind fun r3 => (if r3 = 2 then some (0, q.2) else (if r3 = 4 then some (0, q.2) else K29 ((q.1 + 1), q.2)))) := rfl
theorem eFX9_done (N : Nat) (x1 : Int32) (M : Mm) : FX9_done N x1 M = (FX9_hasDraft x1 M).bind fun r2 => (if r2 = 0 then some ((-1), M) else (ckR 33 4 x1).bind fun k4 => (FX6_look N 37 k4 M).bind fun M7 => lp (BX9_done_29 N) N (0, M7)) := rfl
set_option maxRecDepth 20000 in
theorem tX9_done_29 {l : Launch} {G : va_G} {tc : Nat → ClassId} {D : Nat → Nat} {N : Nat} : ∀ (nn : Nat) (q : Int32 × Mm) (R : (Int32 × Mm)), lp (BX9_done_29 N) nn q = some R → WP l G tc D lay (fun _ => True) RX9 cX9_done 4 rX9_done (.code yX9_done cX9_done 4 (some .int)) 29 [some (.ref 0), none, some (.int q.1), none] [] q.2 (RetQ cX9_done (some .int) (RQI R.1 R.2)) := by
  refine lp_ind (fun K29 hK29q q R h => ?_)
  have hK29 : ∀ (z0 : Int32) (z1 : Mm) (R : (Int32 × Mm)), K29 (z0, z1) = some R → WP l G tc D lay (fun _ => True) RX9 cX9_done 4 rX9_done (.code yX9_done cX9_done 4 (some .int)) 29 [some (.ref 0), none, some (.int z0), none] [] z1 (RetQ cX9_done (some .int) (RQI R.1 R.2)) := fun z0 z1 R hh => hK29q (z0, z1) R hh
  unfold BX9_done_29 at h
  refine WP.iload_n dX9_done_29 rfl rfl ?_
  refine WP.aload_n dX9_done_30 rfl rfl ?_
  refine WP.getR (j := 0) dX9_done_31 rfl rfl in_X9 (by decide) wd_311 rfl ?_
  refine WP.getR (j := 0) dX9_done_34 rfl rfl in_X2 (by decide) wd_161 rfl ?_
  refine WP.getI (j := 6) dX9_done_37 rfl rfl in_X0 (by decide) wd_109 rfl ?_
  refine WP.icmp_ge (tgt := 77) dX9_done_40 (by decide) (fun c1 => ?_) (fun c1 => ?_)
  · rw [if_pos c1] at h
    refine WP.iconst (v := 1) dX9_done_77 (by decide) ?_
    cases h
    exact WP.iret dX9_done_78 ⟨rfl, rfl⟩
  · rw [if_neg c1] at h
    refine WP.aload_n dX9_done_43 rfl rfl ?_
    refine WP.getR (j := 3) dX9_done_44 rfl rfl in_X9 (by decide) wd_314 rfl ?_
    refine WP.aload_n dX9_done_47 rfl rfl ?_
    refine WP.getR (j := 0) dX9_done_48 rfl rfl in_X9 (by decide) wd_311 rfl ?_
    refine WP.getR (j := 0) dX9_done_51 rfl rfl in_X2 (by decide) wd_161 rfl ?_
    refine WP.iload_n dX9_done_54 rfl rfl ?_
    obtain ⟨r3, h2, h⟩ := Option.bind_eq_some_iff.mp h
    refine WP.callVI [.ref 2, .int q.1] dX9_done_55 lk_X9_178 rfl rfl rfl (Nat.le_of_ble_eq_true rfl) (by decide) (Nat.le_of_ble_eq_true rfl) rfl (TX6_statusOf (s := 37) rfl rfl rfl rfl h2) ?_
    refine WP.istore_n dX9_done_58 rfl (by decide) rfl rfl ?_
    refine WP.iload_n dX9_done_59 rfl rfl ?_
    refine WP.iconst (v := 2) dX9_done_60 (by decide) ?_
    refine WP.icmp_eq (tgt := 69) dX9_done_61 (by decide) (fun c4 => ?_) (fun c4 => ?_)
    · rw [if_pos c4] at h
      refine WP.iconst (v := 0) dX9_done_69 (by decide) ?_
      cases h
      exact WP.iret dX9_done_70 ⟨rfl, rfl⟩
    · rw [if_neg c4] at h
      refine WP.iload_n dX9_done_64 rfl rfl ?_
      refine WP.iconst (v := 4) dX9_done_65 (by decide) ?_
      refine WP.icmp_ne (tgt := 71) dX9_done_66 (by decide) (fun c5 => ?_) (fun c5 => ?_)
      · rw [if_neg c5] at h
        refine WP.iinc (v := (q.1 + 1)) dX9_done_71 rfl rfl (by decide) rfl rfl ?_
        refine WP.goto (tgt := 29) dX9_done_74 (by decide) ?_
        refine WP.fgt [true, false, true, false] rfl ?_
        exact hK29 (q.1 + 1) q.2 _ h
      · rw [if_pos c5] at h
        refine WP.iconst (v := 0) dX9_done_69 (by decide) ?_
        cases h
        exact WP.iret dX9_done_70 ⟨rfl, rfl⟩
theorem uX9_done_29 {l : Launch} {G : va_G} {tc : Nat → ClassId} {D : Nat → Nat} {N : Nat} (nn : Nat) : ∀ (z0 : Int32) (z1 : Mm) (R : (Int32 × Mm)), lp (BX9_done_29 N) nn (z0, z1) = some R → WP l G tc D lay (fun _ => True) RX9 cX9_done 4 rX9_done (.code yX9_done cX9_done 4 (some .int)) 29 [some (.ref 0), none, some (.int z0), none] [] z1 (RetQ cX9_done (some .int) (RQI R.1 R.2)) := fun z0 z1 R hh => tX9_done_29  nn (z0, z1) R hh
set_option maxRecDepth 20000 in
theorem TX9_done {l : Launch} {G : va_G} {tc : Nat → ClassId} {D : Nat → Nat} {N : Nat} {x1 : Int32} {M : Mm} {R : (Int32 × Mm)} (h : FX9_done N x1 M = some R) : WP l G tc D lay (fun _ => True) yX9_done.cls cX9_done 4 rX9_done (.code yX9_done cX9_done 4 (some .int)) 0 (entL 4 [.ref 0, .int x1]) [] M (RetQ cX9_done (some .int) (RQI R.1 R.2)) := by
  show WP l G tc D lay (fun _ => True) RX9 cX9_done 4 rX9_done (.code yX9_done cX9_done 4 (some .int)) 0 [some (.ref 0), some (.int x1), none, none] [] M (RetQ cX9_done (some .int) (RQI R.1 R.2))
  unfold FX9_done at h
  refine WP.aload_n dX9_done_0 rfl rfl ?_
  refine WP.iload_n dX9_done_1 rfl rfl ?_
  obtain ⟨r2, h1, h⟩ := Option.bind_eq_some_iff.mp h
  refine WP.callVI [.int x1] dX9_done_2 lk_X9_182 rfl rfl rfl (Nat.le_of_ble_eq_true rfl) (by decide) (Nat.le_of_ble_eq_true rfl) rfl (TX9_hasDraft h1) ?_
  refine WP.if_ne (tgt := 10) dX9_done_5 (by decide) (fun c3 => ?_) (fun c3 => ?_)
  · rw [if_neg c3] at h
    refine WP.aload_n dX9_done_10 rfl rfl ?_
    refine WP.getR (j := 3) dX9_done_11 rfl rfl in_X9 (by decide) wd_314 rfl ?_
    refine WP.aload_n dX9_done_14 rfl rfl ?_
    refine WP.getR (j := 0) dX9_done_15 rfl rfl in_X9 (by decide) wd_311 rfl ?_
    refine WP.aload_n dX9_done_18 rfl rfl ?_
    refine WP.getR (j := 2) dX9_done_19 rfl rfl in_X9 (by decide) wd_313 rfl ?_
    refine WP.iload_n dX9_done_22 rfl rfl ?_
    obtain ⟨k4, h5, h⟩ := Option.bind_eq_some_iff.mp h
    refine WP.aaldQ (base := 33) (n := 4) dX9_done_23 rfl rfl h5 ?_
    have hk4 := rows_32 h5
    obtain ⟨M7, h6, h⟩ := Option.bind_eq_some_iff.mp h
    refine WP.callVV [.ref 1, .ref k4] dX9_done_24 lk_X9_168 rfl rfl rfl (Nat.le_of_ble_eq_true rfl) (by decide) (Nat.le_of_ble_eq_true rfl) rfl (TX6_look (s := 37) (k2 := k4) rfl rfl rfl rfl hk4 h6) ?_
    refine WP.iconst (v := 0) dX9_done_27 (by decide) ?_
    refine WP.istore_n dX9_done_28 rfl (by decide) rfl rfl ?_
    refine WP.fgt [true, false, true, false] rfl ?_
    exact uX9_done_29  N 0 M7 _ h
  · rw [if_pos c3] at h
    refine WP.iconst (v := (-1)) dX9_done_8 (by decide) ?_
    cases h
    exact WP.iret dX9_done_9 ⟨rfl, rfl⟩
/-! X9_value -/
def rX9_value : Room := { frames := 5, cells := 0, slots := 0, locals := 112 }
def FX9_value (N : Nat) (x1 : Int32) (x2 : Int32) (M : Mm) : Option (Int32 × Mm) :=
  (FX9_hasDraft x1 M).bind fun r2 => (if r2 = 0 then some ((-2000000000), M) else (FX3_has x2 M).bind fun r5 => (if r5 = 0 then some ((-2000000000), M) else (ckR 33 4 x1).bind fun k7 => (FX6_look N 37 k7 M).bind fun M10 => (rdI M10 38 50 x2).bind fun v11 => some (v11, M10)))
theorem eFX9_value (N : Nat) (x1 : Int32) (x2 : Int32) (M : Mm) : FX9_value N x1 x2 M = (FX9_hasDraft x1 M).bind fun r2 => (if r2 = 0 then some ((-2000000000), M) else (FX3_has x2 M).bind fun r5 => (if r5 = 0 then some ((-2000000000), M) else (ckR 33 4 x1).bind fun k7 => (FX6_look N 37 k7 M).bind fun M10 => (rdI M10 38 50 x2).bind fun v11 => some (v11, M10))) := rfl
set_option maxRecDepth 20000 in
theorem TX9_value {l : Launch} {G : va_G} {tc : Nat → ClassId} {D : Nat → Nat} {N : Nat} {x1 : Int32} {x2 : Int32} {M : Mm} {R : (Int32 × Mm)} (h : FX9_value N x1 x2 M = some R) : WP l G tc D lay (fun _ => True) yX9_value.cls cX9_value 3 rX9_value (.code yX9_value cX9_value 3 (some .int)) 0 (entL 3 [.ref 0, .int x1, .int x2]) [] M (RetQ cX9_value (some .int) (RQI R.1 R.2)) := by
  show WP l G tc D lay (fun _ => True) RX9 cX9_value 3 rX9_value (.code yX9_value cX9_value 3 (some .int)) 0 [some (.ref 0), some (.int x1), some (.int x2)] [] M (RetQ cX9_value (some .int) (RQI R.1 R.2))
  unfold FX9_value at h
  refine WP.aload_n dX9_value_0 rfl rfl ?_
  refine WP.iload_n dX9_value_1 rfl rfl ?_
  obtain ⟨r2, h1, h⟩ := Option.bind_eq_some_iff.mp h
  refine WP.callVI [.int x1] dX9_value_2 lk_X9_182 rfl rfl rfl (Nat.le_of_ble_eq_true rfl) (by decide) (Nat.le_of_ble_eq_true rfl) rfl (TX9_hasDraft h1) ?_
  refine WP.if_eq (tgt := 22) dX9_value_5 (by decide) (fun c3 => ?_) (fun c3 => ?_)
  · rw [if_pos c3] at h
    refine WP.ldc (v := (-2000000000)) dX9_value_22 wd_202 ?_
    cases h
    exact WP.iret dX9_value_24 ⟨rfl, rfl⟩
  · rw [if_neg c3] at h
    refine WP.aload_n dX9_value_8 rfl rfl ?_
    refine WP.getR (j := 0) dX9_value_9 rfl rfl in_X9 (by decide) wd_311 rfl ?_
    refine WP.getR (j := 1) dX9_value_12 rfl rfl in_X2 (by decide) wd_164 rfl ?_
    refine WP.iload_n dX9_value_15 rfl rfl ?_
    obtain ⟨r5, h4, h⟩ := Option.bind_eq_some_iff.mp h
    refine WP.callVI [.int x2] dX9_value_16 lk_X9_102 rfl rfl rfl (Nat.le_of_ble_eq_true rfl) (by decide) (Nat.le_of_ble_eq_true rfl) rfl (TX3_has h4) ?_
    refine WP.if_ne (tgt := 25) dX9_value_19 (by decide) (fun c6 => ?_) (fun c6 => ?_)
    · rw [if_neg c6] at h
      refine WP.aload_n dX9_value_25 rfl rfl ?_
      refine WP.getR (j := 3) dX9_value_26 rfl rfl in_X9 (by decide) wd_314 rfl ?_
      refine WP.aload_n dX9_value_29 rfl rfl ?_
      refine WP.getR (j := 0) dX9_value_30 rfl rfl in_X9 (by decide) wd_311 rfl ?_
      refine WP.aload_n dX9_value_33 rfl rfl ?_
      refine WP.getR (j := 2) dX9_value_34 rfl rfl in_X9 (by decide) wd_313 rfl ?_
      refine WP.iload_n dX9_value_37 rfl rfl ?_
      obtain ⟨k7, h8, h⟩ := Option.bind_eq_some_iff.mp h
      refine WP.aaldQ (base := 33) (n := 4) dX9_value_38 rfl rfl h8 ?_
      have hk7 := rows_32 h8
      obtain ⟨M10, h9, h⟩ := Option.bind_eq_some_iff.mp h
      refine WP.callVV [.ref 1, .ref k7] dX9_value_39 lk_X9_168 rfl rfl rfl (Nat.le_of_ble_eq_true rfl) (by decide) (Nat.le_of_ble_eq_true rfl) rfl (TX6_look (s := 37) (k2 := k7) rfl rfl rfl rfl hk7 h9) ?_
      refine WP.aload_n dX9_value_42 rfl rfl ?_
      refine WP.getR (j := 3) dX9_value_43 rfl rfl in_X9 (by decide) wd_314 rfl ?_
      refine WP.getR (j := 0) dX9_value_46 rfl rfl in_X6 (by decide) wd_213 rfl ?_
      refine WP.iload_n dX9_value_49 rfl rfl ?_
      obtain ⟨v11, h12, h⟩ := Option.bind_eq_some_iff.mp h
      refine WP.ialdQ dX9_value_50 rfl h12 ?_
      cases h
      exact WP.iret dX9_value_51 ⟨rfl, rfl⟩
    · rw [if_pos c6] at h
      refine WP.ldc (v := (-2000000000)) dX9_value_22 wd_202 ?_
      cases h
      exact WP.iret dX9_value_24 ⟨rfl, rfl⟩
/-! X9_copy -/
def rX9_copy : Room := { frames := 2, cells := 0, slots := 0, locals := 44 }
def BX9_copy_34 (N : Nat) (K34 : Int32 × Int32 × Int32 × Int32 × Mm → Option (Int32 × Mm)) (q : Int32 × Int32 × Int32 × Int32 × Mm) : Option (Int32 × Mm) :=
  (if (q.2.2.2.2.1 2 6) ≤ q.2.2.2.1 then some (q.2.2.1, q.2.2.2.2) else (ckR 33 4 q.2.1).bind fun k2 => (rdI q.2.2.2.2 k2 12 q.2.2.2.1).bind fun v4 => (ckR 33 4 q.1).bind fun k6 => (rdI q.2.2.2.2 k6 12 q.2.2.2.1).bind fun v8 => (if v4 = v8 then K34 (q.1, q.2.1, q.2.2.1, (q.2.2.2.1 + 1), q.2.2.2.2) else (ckR 33 4 q.2.1).bind fun k11 => (ckR 33 4 q.1).bind fun k13 => (rdI q.2.2.2.2 k13 12 q.2.2.2.1).bind fun v15 => (wrI q.2.2.2.2 k11 12 q.2.2.2.1 v15).bind fun M17 => K34 (q.1, q.2.1, (q.2.2.1 + 1), (q.2.2.2.1 + 1), M17)))
def FX9_copy (N : Nat) (x1 : Int32) (x2 : Int32) (M : Mm) : Option (Int32 × Mm) :=
  (FX9_hasDraft x1 M).bind fun r2 => (if r2 = 0 then some ((-1), M) else (FX9_hasDraft x2 M).bind fun r5 => (if r5 = 0 then some ((-1), M) else (FX9_lockedBits N x2 M).bind fun r8 => (if r8 = 0 then lp (BX9_copy_34 N) N (x1, x2, 0, 0, M) else some ((-3), M))))
theorem eBX9_copy_34 (N : Nat) (K34 : Int32 × Int32 × Int32 × Int32 × Mm → Option (Int32 × Mm)) (q : Int32 × Int32 × Int32 × Int32 × Mm) : BX9_copy_34 N K34 q = (if (q.2.2.2.2.1 2 6) ≤ q.2.2.2.1 then some (q.2.2.1, q.2.2.2.2) else (ckR 33 4 q.2.1).bind fun k2 => (rdI q.2.2.2.2 k2 12 q.2.2.2.1).bind fun v4 => (ckR 33 4 q.1).bind fun k6 => (rdI q.2.2.2.2 k6 12 q.2.2.2.1).bind fun v8 => (if v4 = v8 then K34 (q.1, q.2.1, q.2.2.1, (q.2.2.2.1 + 1), q.2.2.2.2) else (ckR 33 4 q.2.1).bind fun k11 => (ckR 33 4 q.1).bind fun k13 => (rdI q.2.2.2.2 k13 12 q.2.2.2.1).bind fun v15 => (wrI q.2.2.2.2 k11 12 q.2.2.2.1 v15).bind fun M17 => K34 (q.1, q.2.1, (q.2.2.1 + 1), (q.2.2.2.1 + 1), M17))) := rfl
theorem eFX9_copy (N : Nat) (x1 : Int32) (x2 : Int32) (M : Mm) : FX9_copy N x1 x2 M = (FX9_hasDraft x1 M).bind fun r2 => (if r2 = 0 then some ((-1), M) else (FX9_hasDraft x2 M).bind fun r5 => (if r5 = 0 then some ((-1), M) else (FX9_lockedBits N x2 M).bind fun r8 => (if r8 = 0 then lp (BX9_copy_34 N) N (x1, x2, 0, 0, M) else some ((-3), M)))) := rfl
set_option maxRecDepth 20000 in
theorem tX9_copy_34 {l : Launch} {G : va_G} {tc : Nat → ClassId} {D : Nat → Nat} {N : Nat} : ∀ (nn : Nat) (q : Int32 × Int32 × Int32 × Int32 × Mm) (R : (Int32 × Mm)), lp (BX9_copy_34 N) nn q = some R → WP l G tc D lay (fun _ => True) RX9 cX9_copy 5 rX9_copy (.code yX9_copy cX9_copy 5 (some .int)) 34 [some (.ref 0), some (.int q.1), some (.int q.2.1), some (.int q.2.2.1), some (.int q.2.2.2.1)] [] q.2.2.2.2 (RetQ cX9_copy (some .int) (RQI R.1 R.2)) := by
  refine lp_ind (fun K34 hK34q q R h => ?_)
  have hK34 : ∀ (z0 : Int32) (z1 : Int32) (z2 : Int32) (z3 : Int32) (z4 : Mm) (R : (Int32 × Mm)), K34 (z0, z1, z2, z3, z4) = some R → WP l G tc D lay (fun _ => True) RX9 cX9_copy 5 rX9_copy (.code yX9_copy cX9_copy 5 (some .int)) 34 [some (.ref 0), some (.int z0), some (.int z1), some (.int z2), some (.int z3)] [] z4 (RetQ cX9_copy (some .int) (RQI R.1 R.2)) := fun z0 z1 z2 z3 z4 R hh => hK34q (z0, z1, z2, z3, z4) R hh
  unfold BX9_copy_34 at h
  refine WP.iload dX9_copy_34 rfl ?_
  refine WP.aload_n dX9_copy_36 rfl rfl ?_
  refine WP.getR (j := 0) dX9_copy_37 rfl rfl in_X9 (by decide) wd_311 rfl ?_
  refine WP.getR (j := 0) dX9_copy_40 rfl rfl in_X2 (by decide) wd_161 rfl ?_
  refine WP.getI (j := 6) dX9_copy_43 rfl rfl in_X0 (by decide) wd_109 rfl ?_
  refine WP.icmp_ge (tgt := 97) dX9_copy_46 (by decide) (fun c1 => ?_) (fun c1 => ?_)
  · rw [if_pos c1] at h
    refine WP.iload_n dX9_copy_97 rfl rfl ?_
    cases h
    exact WP.iret dX9_copy_98 ⟨rfl, rfl⟩
  · rw [if_neg c1] at h
    refine WP.aload_n dX9_copy_49 rfl rfl ?_
    refine WP.getR (j := 2) dX9_copy_50 rfl rfl in_X9 (by decide) wd_313 rfl ?_
    refine WP.iload_n dX9_copy_53 rfl rfl ?_
    obtain ⟨k2, h3, h⟩ := Option.bind_eq_some_iff.mp h
    refine WP.aaldQ (base := 33) (n := 4) dX9_copy_54 rfl rfl h3 ?_
    have hk2 := rows_32 h3
    refine WP.iload dX9_copy_55 rfl ?_
    obtain ⟨v4, h5, h⟩ := Option.bind_eq_some_iff.mp h
    refine WP.ialdQ dX9_copy_57 hk2 h5 ?_
    refine WP.aload_n dX9_copy_58 rfl rfl ?_
    refine WP.getR (j := 2) dX9_copy_59 rfl rfl in_X9 (by decide) wd_313 rfl ?_
    refine WP.iload_n dX9_copy_62 rfl rfl ?_
    obtain ⟨k6, h7, h⟩ := Option.bind_eq_some_iff.mp h
    refine WP.aaldQ (base := 33) (n := 4) dX9_copy_63 rfl rfl h7 ?_
    have hk6 := rows_32 h7
    refine WP.iload dX9_copy_64 rfl ?_
    obtain ⟨v8, h9, h⟩ := Option.bind_eq_some_iff.mp h
    refine WP.ialdQ dX9_copy_66 hk6 h9 ?_
    refine WP.icmp_eq (tgt := 91) dX9_copy_67 (by decide) (fun c10 => ?_) (fun c10 => ?_)
    · rw [if_pos c10] at h
      refine WP.iinc (v := (q.2.2.2.1 + 1)) dX9_copy_91 rfl rfl (by decide) rfl rfl ?_
      refine WP.goto (tgt := 34) dX9_copy_94 (by decide) ?_
      refine WP.fgt [true, true, true, true, true] rfl ?_
      exact hK34 q.1 q.2.1 q.2.2.1 (q.2.2.2.1 + 1) q.2.2.2.2 _ h
    · rw [if_neg c10] at h
      refine WP.aload_n dX9_copy_70 rfl rfl ?_
      refine WP.getR (j := 2) dX9_copy_71 rfl rfl in_X9 (by decide) wd_313 rfl ?_
      refine WP.iload_n dX9_copy_74 rfl rfl ?_
      obtain ⟨k11, h12, h⟩ := Option.bind_eq_some_iff.mp h
      refine WP.aaldQ (base := 33) (n := 4) dX9_copy_75 rfl rfl h12 ?_
      have hk11 := rows_32 h12
      refine WP.iload dX9_copy_76 rfl ?_
      refine WP.aload_n dX9_copy_78 rfl rfl ?_
      refine WP.getR (j := 2) dX9_copy_79 rfl rfl in_X9 (by decide) wd_313 rfl ?_
      refine WP.iload_n dX9_copy_82 rfl rfl ?_
      obtain ⟨k13, h14, h⟩ := Option.bind_eq_some_iff.mp h
      refine WP.aaldQ (base := 33) (n := 4) dX9_copy_83 rfl rfl h14 ?_
      have hk13 := rows_32 h14
      refine WP.iload dX9_copy_84 rfl ?_
      obtain ⟨v15, h16, h⟩ := Option.bind_eq_some_iff.mp h
      refine WP.ialdQ dX9_copy_86 hk13 h16 ?_
      obtain ⟨M17, h18, h⟩ := Option.bind_eq_some_iff.mp h
      refine WP.iastQ dX9_copy_87 hk11 h18 ?_
      refine WP.iinc (v := (q.2.2.1 + 1)) dX9_copy_88 rfl rfl (by decide) rfl rfl ?_
      refine WP.iinc (v := (q.2.2.2.1 + 1)) dX9_copy_91 rfl rfl (by decide) rfl rfl ?_
      refine WP.goto (tgt := 34) dX9_copy_94 (by decide) ?_
      refine WP.fgt [true, true, true, true, true] rfl ?_
      exact hK34 q.1 q.2.1 (q.2.2.1 + 1) (q.2.2.2.1 + 1) M17 _ h
theorem uX9_copy_34 {l : Launch} {G : va_G} {tc : Nat → ClassId} {D : Nat → Nat} {N : Nat} (nn : Nat) : ∀ (z0 : Int32) (z1 : Int32) (z2 : Int32) (z3 : Int32) (z4 : Mm) (R : (Int32 × Mm)), lp (BX9_copy_34 N) nn (z0, z1, z2, z3, z4) = some R → WP l G tc D lay (fun _ => True) RX9 cX9_copy 5 rX9_copy (.code yX9_copy cX9_copy 5 (some .int)) 34 [some (.ref 0), some (.int z0), some (.int z1), some (.int z2), some (.int z3)] [] z4 (RetQ cX9_copy (some .int) (RQI R.1 R.2)) := fun z0 z1 z2 z3 z4 R hh => tX9_copy_34  nn (z0, z1, z2, z3, z4) R hh
set_option maxRecDepth 20000 in
theorem TX9_copy {l : Launch} {G : va_G} {tc : Nat → ClassId} {D : Nat → Nat} {N : Nat} {x1 : Int32} {x2 : Int32} {M : Mm} {R : (Int32 × Mm)} (h : FX9_copy N x1 x2 M = some R) : WP l G tc D lay (fun _ => True) yX9_copy.cls cX9_copy 5 rX9_copy (.code yX9_copy cX9_copy 5 (some .int)) 0 (entL 5 [.ref 0, .int x1, .int x2]) [] M (RetQ cX9_copy (some .int) (RQI R.1 R.2)) := by
  show WP l G tc D lay (fun _ => True) RX9 cX9_copy 5 rX9_copy (.code yX9_copy cX9_copy 5 (some .int)) 0 [some (.ref 0), some (.int x1), some (.int x2), none, none] [] M (RetQ cX9_copy (some .int) (RQI R.1 R.2))
  unfold FX9_copy at h
  refine WP.aload_n dX9_copy_0 rfl rfl ?_
  refine WP.iload_n dX9_copy_1 rfl rfl ?_
  obtain ⟨r2, h1, h⟩ := Option.bind_eq_some_iff.mp h
  refine WP.callVI [.int x1] dX9_copy_2 lk_X9_182 rfl rfl rfl (Nat.le_of_ble_eq_true rfl) (by decide) (Nat.le_of_ble_eq_true rfl) rfl (TX9_hasDraft h1) ?_
  refine WP.if_eq (tgt := 16) dX9_copy_5 (by decide) (fun c3 => ?_) (fun c3 => ?_)
  · rw [if_pos c3] at h
    refine WP.iconst (v := (-1)) dX9_copy_16 (by decide) ?_
    cases h
    exact WP.iret dX9_copy_17 ⟨rfl, rfl⟩
  · rw [if_neg c3] at h
    refine WP.aload_n dX9_copy_8 rfl rfl ?_
    refine WP.iload_n dX9_copy_9 rfl rfl ?_
    obtain ⟨r5, h4, h⟩ := Option.bind_eq_some_iff.mp h
    refine WP.callVI [.int x2] dX9_copy_10 lk_X9_182 rfl rfl rfl (Nat.le_of_ble_eq_true rfl) (by decide) (Nat.le_of_ble_eq_true rfl) rfl (TX9_hasDraft h4) ?_
    refine WP.if_ne (tgt := 18) dX9_copy_13 (by decide) (fun c6 => ?_) (fun c6 => ?_)
    · rw [if_neg c6] at h
      refine WP.aload_n dX9_copy_18 rfl rfl ?_
      refine WP.iload_n dX9_copy_19 rfl rfl ?_
      obtain ⟨r8, h7, h⟩ := Option.bind_eq_some_iff.mp h
      refine WP.callVI [.int x2] dX9_copy_20 lk_X9_165 rfl rfl rfl (Nat.le_of_ble_eq_true rfl) (by decide) (Nat.le_of_ble_eq_true rfl) rfl (TX9_lockedBits h7) ?_
      refine WP.if_eq (tgt := 29) dX9_copy_23 (by decide) (fun c9 => ?_) (fun c9 => ?_)
      · rw [if_pos c9] at h
        refine WP.iconst (v := 0) dX9_copy_29 (by decide) ?_
        refine WP.istore_n dX9_copy_30 rfl (by decide) rfl rfl ?_
        refine WP.iconst (v := 0) dX9_copy_31 (by decide) ?_
        refine WP.istore dX9_copy_32 (by decide) rfl rfl ?_
        refine WP.fgt [true, true, true, true, true] rfl ?_
        exact uX9_copy_34  N x1 x2 0 0 M _ h
      · rw [if_neg c9] at h
        refine WP.bipush (v := (-3)) dX9_copy_26 (by decide) ?_
        cases h
        exact WP.iret dX9_copy_28 ⟨rfl, rfl⟩
    · rw [if_pos c6] at h
      refine WP.iconst (v := (-1)) dX9_copy_16 (by decide) ?_
      cases h
      exact WP.iret dX9_copy_17 ⟨rfl, rfl⟩
/-! X9_join -/
def rX9_join : Room := { frames := 2, cells := 0, slots := 0, locals := 44 }
def BX9_join_57 (N : Nat) (K57 : Int32 × Int32 × Int32 × Int32 × Int32 × Mm → Option (Int32 × Mm)) (q : Int32 × Int32 × Int32 × Int32 × Int32 × Mm) : Option (Int32 × Mm) :=
  (if (q.2.2.2.2.2.1 2 6) ≤ q.2.2.2.2.1 then some ((q.2.2.2.2.2.1 41 1), q.2.2.2.2.2) else (ckR 33 4 q.2.2.2.1).bind fun k2 => (ckR 33 4 q.1).bind fun k4 => (rdI q.2.2.2.2.2 k4 12 q.2.2.2.2.1).bind fun v6 => (ckR 33 4 q.2.1).bind fun k8 => (rdI q.2.2.2.2.2 k8 12 q.2.2.2.2.1).bind fun v10 => (ckR 33 4 q.2.2.1).bind fun k12 => (rdI q.2.2.2.2.2 k12 12 q.2.2.2.2.1).bind fun v14 => (FX1_joinOne q.2.2.2.2.1 v6 v10 v14 q.2.2.2.2.2).bind fun p17 => (wrI p17.2 k2 12 q.2.2.2.2.1 p17.1).bind fun M18 => K57 (q.1, q.2.1, q.2.2.1, q.2.2.2.1, (q.2.2.2.2.1 + 1), M18))
def FX9_join (N : Nat) (x1 : Int32) (x2 : Int32) (x3 : Int32) (x4 : Int32) (M : Mm) : Option (Int32 × Mm) :=
  (FX9_hasDraft x1 M).bind fun r2 => (if r2 = 0 then some ((-1), M) else (FX9_hasDraft x2 M).bind fun r5 => (if r5 = 0 then some ((-1), M) else (FX9_hasDraft x3 M).bind fun r8 => (if r8 = 0 then some ((-1), M) else (FX9_hasDraft x4 M).bind fun r11 => (if r11 = 0 then some ((-1), M) else (FX9_lockedBits N x4 M).bind fun r14 => (if r14 = 0 then (FX1_begin M).bind fun M17 => lp (BX9_join_57 N) N (x1, x2, x3, x4, 0, M17) else some ((-3), M))))))
theorem eBX9_join_57 (N : Nat) (K57 : Int32 × Int32 × Int32 × Int32 × Int32 × Mm → Option (Int32 × Mm)) (q : Int32 × Int32 × Int32 × Int32 × Int32 × Mm) : BX9_join_57 N K57 q = (if (q.2.2.2.2.2.1 2 6) ≤ q.2.2.2.2.1 then some ((q.2.2.2.2.2.1 41 1), q.2.2.2.2.2) else (ckR 33 4 q.2.2.2.1).bind fun k2 => (ckR 33 4 q.1).bind fun k4 => (rdI q.2.2.2.2.2 k4 12 q.2.2.2.2.1).bind fun v6 => (ckR 33 4 q.2.1).bind fun k8 => (rdI q.2.2.2.2.2 k8 12 q.2.2.2.2.1).bind fun v10 => (ckR 33 4 q.2.2.1).bind fun k12 => (rdI q.2.2.2.2.2 k12 12 q.2.2.2.2.1).bind fun v14 => (FX1_joinOne q.2.2.2.2.1 v6 v10 v14 q.2.2.2.2.2).bind fun p17 => (wrI p17.2 k2 12 q.2.2.2.2.1 p17.1).bind fun M18 => K57 (q.1, q.2.1, q.2.2.1, q.2.2.2.1, (q.2.2.2.2.1 + 1), M18)) := rfl
theorem eFX9_join (N : Nat) (x1 : Int32) (x2 : Int32) (x3 : Int32) (x4 : Int32) (M : Mm) : FX9_join N x1 x2 x3 x4 M = (FX9_hasDraft x1 M).bind fun r2 => (if r2 = 0 then some ((-1), M) else (FX9_hasDraft x2 M).bind fun r5 => (if r5 = 0 then some ((-1), M) else (FX9_hasDraft x3 M).bind fun r8 => (if r8 = 0 then some ((-1), M) else (FX9_hasDraft x4 M).bind fun r11 => (if r11 = 0 then some ((-1), M) else (FX9_lockedBits N x4 M).bind fun r14 => (if r14 = 0 then (FX1_begin M).bind fun M17 => lp (BX9_join_57 N) N (x1, x2, x3, x4, 0, M17) else some ((-3), M)))))) := rfl
set_option maxRecDepth 20000 in
theorem tX9_join_57 {l : Launch} {G : va_G} {tc : Nat → ClassId} {D : Nat → Nat} {N : Nat} : ∀ (nn : Nat) (q : Int32 × Int32 × Int32 × Int32 × Int32 × Mm) (R : (Int32 × Mm)), lp (BX9_join_57 N) nn q = some R → WP l G tc D lay (fun _ => True) RX9 cX9_join 6 rX9_join (.code yX9_join cX9_join 6 (some .int)) 57 [some (.ref 0), some (.int q.1), some (.int q.2.1), some (.int q.2.2.1), some (.int q.2.2.2.1), some (.int q.2.2.2.2.1)] [] q.2.2.2.2.2 (RetQ cX9_join (some .int) (RQI R.1 R.2)) := by
  refine lp_ind (fun K57 hK57q q R h => ?_)
  have hK57 : ∀ (z0 : Int32) (z1 : Int32) (z2 : Int32) (z3 : Int32) (z4 : Int32) (z5 : Mm) (R : (Int32 × Mm)), K57 (z0, z1, z2, z3, z4, z5) = some R → WP l G tc D lay (fun _ => True) RX9 cX9_join 6 rX9_join (.code yX9_join cX9_join 6 (some .int)) 57 [some (.ref 0), some (.int z0), some (.int z1), some (.int z2), some (.int z3), some (.int z4)] [] z5 (RetQ cX9_join (some .int) (RQI R.1 R.2)) := fun z0 z1 z2 z3 z4 z5 R hh => hK57q (z0, z1, z2, z3, z4, z5) R hh
  unfold BX9_join_57 at h
  refine WP.iload dX9_join_57 rfl ?_
  refine WP.aload_n dX9_join_59 rfl rfl ?_
  refine WP.getR (j := 0) dX9_join_60 rfl rfl in_X9 (by decide) wd_311 rfl ?_
  refine WP.getR (j := 0) dX9_join_63 rfl rfl in_X2 (by decide) wd_161 rfl ?_
  refine WP.getI (j := 6) dX9_join_66 rfl rfl in_X0 (by decide) wd_109 rfl ?_
  refine WP.icmp_ge (tgt := 124) dX9_join_69 (by decide) (fun c1 => ?_) (fun c1 => ?_)
  · rw [if_pos c1] at h
    refine WP.aload_n dX9_join_124 rfl rfl ?_
    refine WP.getR (j := 4) dX9_join_125 rfl rfl in_X9 (by decide) wd_315 rfl ?_
    refine WP.getI (j := 1) dX9_join_128 rfl rfl in_X1 (by decide) wd_234 rfl ?_
    cases h
    exact WP.iret dX9_join_131 ⟨rfl, rfl⟩
  · rw [if_neg c1] at h
    refine WP.aload_n dX9_join_72 rfl rfl ?_
    refine WP.getR (j := 2) dX9_join_73 rfl rfl in_X9 (by decide) wd_313 rfl ?_
    refine WP.iload dX9_join_76 rfl ?_
    obtain ⟨k2, h3, h⟩ := Option.bind_eq_some_iff.mp h
    refine WP.aaldQ (base := 33) (n := 4) dX9_join_78 rfl rfl h3 ?_
    have hk2 := rows_32 h3
    refine WP.iload dX9_join_79 rfl ?_
    refine WP.aload_n dX9_join_81 rfl rfl ?_
    refine WP.getR (j := 4) dX9_join_82 rfl rfl in_X9 (by decide) wd_315 rfl ?_
    refine WP.iload dX9_join_85 rfl ?_
    refine WP.aload_n dX9_join_87 rfl rfl ?_
    refine WP.getR (j := 2) dX9_join_88 rfl rfl in_X9 (by decide) wd_313 rfl ?_
    refine WP.iload_n dX9_join_91 rfl rfl ?_
    obtain ⟨k4, h5, h⟩ := Option.bind_eq_some_iff.mp h
    refine WP.aaldQ (base := 33) (n := 4) dX9_join_92 rfl rfl h5 ?_
    have hk4 := rows_32 h5
    refine WP.iload dX9_join_93 rfl ?_
    obtain ⟨v6, h7, h⟩ := Option.bind_eq_some_iff.mp h
    refine WP.ialdQ dX9_join_95 hk4 h7 ?_
    refine WP.aload_n dX9_join_96 rfl rfl ?_
    refine WP.getR (j := 2) dX9_join_97 rfl rfl in_X9 (by decide) wd_313 rfl ?_
    refine WP.iload_n dX9_join_100 rfl rfl ?_
    obtain ⟨k8, h9, h⟩ := Option.bind_eq_some_iff.mp h
    refine WP.aaldQ (base := 33) (n := 4) dX9_join_101 rfl rfl h9 ?_
    have hk8 := rows_32 h9
    refine WP.iload dX9_join_102 rfl ?_
    obtain ⟨v10, h11, h⟩ := Option.bind_eq_some_iff.mp h
    refine WP.ialdQ dX9_join_104 hk8 h11 ?_
    refine WP.aload_n dX9_join_105 rfl rfl ?_
    refine WP.getR (j := 2) dX9_join_106 rfl rfl in_X9 (by decide) wd_313 rfl ?_
    refine WP.iload_n dX9_join_109 rfl rfl ?_
    obtain ⟨k12, h13, h⟩ := Option.bind_eq_some_iff.mp h
    refine WP.aaldQ (base := 33) (n := 4) dX9_join_110 rfl rfl h13 ?_
    have hk12 := rows_32 h13
    refine WP.iload dX9_join_111 rfl ?_
    obtain ⟨v14, h15, h⟩ := Option.bind_eq_some_iff.mp h
    refine WP.ialdQ dX9_join_113 hk12 h15 ?_
    obtain ⟨p17, h16, h⟩ := Option.bind_eq_some_iff.mp h
    refine WP.callVI [.int q.2.2.2.2.1, .int v6, .int v10, .int v14] dX9_join_114 lk_X9_192 rfl rfl rfl (Nat.le_of_ble_eq_true rfl) (by decide) (Nat.le_of_ble_eq_true rfl) rfl (TX1_joinOne h16) ?_
    obtain ⟨M18, h19, h⟩ := Option.bind_eq_some_iff.mp h
    refine WP.iastQ dX9_join_117 hk2 h19 ?_
    refine WP.iinc (v := (q.2.2.2.2.1 + 1)) dX9_join_118 rfl rfl (by decide) rfl rfl ?_
    refine WP.goto (tgt := 57) dX9_join_121 (by decide) ?_
    refine WP.fgt [true, true, true, true, true, true] rfl ?_
    exact hK57 q.1 q.2.1 q.2.2.1 q.2.2.2.1 (q.2.2.2.2.1 + 1) M18 _ h
theorem uX9_join_57 {l : Launch} {G : va_G} {tc : Nat → ClassId} {D : Nat → Nat} {N : Nat} (nn : Nat) : ∀ (z0 : Int32) (z1 : Int32) (z2 : Int32) (z3 : Int32) (z4 : Int32) (z5 : Mm) (R : (Int32 × Mm)), lp (BX9_join_57 N) nn (z0, z1, z2, z3, z4, z5) = some R → WP l G tc D lay (fun _ => True) RX9 cX9_join 6 rX9_join (.code yX9_join cX9_join 6 (some .int)) 57 [some (.ref 0), some (.int z0), some (.int z1), some (.int z2), some (.int z3), some (.int z4)] [] z5 (RetQ cX9_join (some .int) (RQI R.1 R.2)) := fun z0 z1 z2 z3 z4 z5 R hh => tX9_join_57  nn (z0, z1, z2, z3, z4, z5) R hh
set_option maxRecDepth 20000 in
theorem TX9_join {l : Launch} {G : va_G} {tc : Nat → ClassId} {D : Nat → Nat} {N : Nat} {x1 : Int32} {x2 : Int32} {x3 : Int32} {x4 : Int32} {M : Mm} {R : (Int32 × Mm)} (h : FX9_join N x1 x2 x3 x4 M = some R) : WP l G tc D lay (fun _ => True) yX9_join.cls cX9_join 6 rX9_join (.code yX9_join cX9_join 6 (some .int)) 0 (entL 6 [.ref 0, .int x1, .int x2, .int x3, .int x4]) [] M (RetQ cX9_join (some .int) (RQI R.1 R.2)) := by
  show WP l G tc D lay (fun _ => True) RX9 cX9_join 6 rX9_join (.code yX9_join cX9_join 6 (some .int)) 0 [some (.ref 0), some (.int x1), some (.int x2), some (.int x3), some (.int x4), none] [] M (RetQ cX9_join (some .int) (RQI R.1 R.2))
  unfold FX9_join at h
  refine WP.aload_n dX9_join_0 rfl rfl ?_
  refine WP.iload_n dX9_join_1 rfl rfl ?_
  obtain ⟨r2, h1, h⟩ := Option.bind_eq_some_iff.mp h
  refine WP.callVI [.int x1] dX9_join_2 lk_X9_182 rfl rfl rfl (Nat.le_of_ble_eq_true rfl) (by decide) (Nat.le_of_ble_eq_true rfl) rfl (TX9_hasDraft h1) ?_
  refine WP.if_eq (tgt := 33) dX9_join_5 (by decide) (fun c3 => ?_) (fun c3 => ?_)
  · rw [if_pos c3] at h
    refine WP.iconst (v := (-1)) dX9_join_33 (by decide) ?_
    cases h
    exact WP.iret dX9_join_34 ⟨rfl, rfl⟩
  · rw [if_neg c3] at h
    refine WP.aload_n dX9_join_8 rfl rfl ?_
    refine WP.iload_n dX9_join_9 rfl rfl ?_
    obtain ⟨r5, h4, h⟩ := Option.bind_eq_some_iff.mp h
    refine WP.callVI [.int x2] dX9_join_10 lk_X9_182 rfl rfl rfl (Nat.le_of_ble_eq_true rfl) (by decide) (Nat.le_of_ble_eq_true rfl) rfl (TX9_hasDraft h4) ?_
    refine WP.if_eq (tgt := 33) dX9_join_13 (by decide) (fun c6 => ?_) (fun c6 => ?_)
    · rw [if_pos c6] at h
      refine WP.iconst (v := (-1)) dX9_join_33 (by decide) ?_
      cases h
      exact WP.iret dX9_join_34 ⟨rfl, rfl⟩
    · rw [if_neg c6] at h
      refine WP.aload_n dX9_join_16 rfl rfl ?_
      refine WP.iload_n dX9_join_17 rfl rfl ?_
      obtain ⟨r8, h7, h⟩ := Option.bind_eq_some_iff.mp h
      refine WP.callVI [.int x3] dX9_join_18 lk_X9_182 rfl rfl rfl (Nat.le_of_ble_eq_true rfl) (by decide) (Nat.le_of_ble_eq_true rfl) rfl (TX9_hasDraft h7) ?_
      refine WP.if_eq (tgt := 33) dX9_join_21 (by decide) (fun c9 => ?_) (fun c9 => ?_)
      · rw [if_pos c9] at h
        refine WP.iconst (v := (-1)) dX9_join_33 (by decide) ?_
        cases h
        exact WP.iret dX9_join_34 ⟨rfl, rfl⟩
      · rw [if_neg c9] at h
        refine WP.aload_n dX9_join_24 rfl rfl ?_
        refine WP.iload dX9_join_25 rfl ?_
        obtain ⟨r11, h10, h⟩ := Option.bind_eq_some_iff.mp h
        refine WP.callVI [.int x4] dX9_join_27 lk_X9_182 rfl rfl rfl (Nat.le_of_ble_eq_true rfl) (by decide) (Nat.le_of_ble_eq_true rfl) rfl (TX9_hasDraft h10) ?_
        refine WP.if_ne (tgt := 35) dX9_join_30 (by decide) (fun c12 => ?_) (fun c12 => ?_)
        · rw [if_neg c12] at h
          refine WP.aload_n dX9_join_35 rfl rfl ?_
          refine WP.iload dX9_join_36 rfl ?_
          obtain ⟨r14, h13, h⟩ := Option.bind_eq_some_iff.mp h
          refine WP.callVI [.int x4] dX9_join_38 lk_X9_165 rfl rfl rfl (Nat.le_of_ble_eq_true rfl) (by decide) (Nat.le_of_ble_eq_true rfl) rfl (TX9_lockedBits h13) ?_
          refine WP.if_eq (tgt := 47) dX9_join_41 (by decide) (fun c15 => ?_) (fun c15 => ?_)
          · rw [if_pos c15] at h
            refine WP.aload_n dX9_join_47 rfl rfl ?_
            refine WP.getR (j := 4) dX9_join_48 rfl rfl in_X9 (by decide) wd_315 rfl ?_
            obtain ⟨M17, h16, h⟩ := Option.bind_eq_some_iff.mp h
            refine WP.callVV [] dX9_join_51 lk_X9_189 rfl rfl rfl (Nat.le_of_ble_eq_true rfl) (by decide) (Nat.le_of_ble_eq_true rfl) rfl (TX1_begin h16) ?_
            refine WP.iconst (v := 0) dX9_join_54 (by decide) ?_
            refine WP.istore dX9_join_55 (by decide) rfl rfl ?_
            refine WP.fgt [true, true, true, true, true, true] rfl ?_
            exact uX9_join_57  N x1 x2 x3 x4 0 M17 _ h
          · rw [if_neg c15] at h
            refine WP.bipush (v := (-3)) dX9_join_44 (by decide) ?_
            cases h
            exact WP.iret dX9_join_46 ⟨rfl, rfl⟩
        · rw [if_pos c12] at h
          refine WP.iconst (v := (-1)) dX9_join_33 (by decide) ?_
          cases h
          exact WP.iret dX9_join_34 ⟨rfl, rfl⟩
/-! X9_odds -/
def rX9_odds : Room := { frames := 0, cells := 0, slots := 0, locals := 0 }
def FX9_odds (x1 : Int32) (M : Mm) : Option Int32 :=
  (if x1 < 0 then some (-1) else (if (M.1 41 1) ≤ x1 then some (-1) else (rdI M 42 12 x1).bind fun v3 => some v3))
theorem eFX9_odds (x1 : Int32) (M : Mm) : FX9_odds x1 M = (if x1 < 0 then some (-1) else (if (M.1 41 1) ≤ x1 then some (-1) else (rdI M 42 12 x1).bind fun v3 => some v3)) := rfl
set_option maxRecDepth 20000 in
theorem TX9_odds {l : Launch} {G : va_G} {tc : Nat → ClassId} {D : Nat → Nat} {x1 : Int32} {M : Mm} {R : Int32} (h : FX9_odds x1 M = some R) : WP l G tc D lay (fun _ => True) yX9_odds.cls cX9_odds 2 rX9_odds (.code yX9_odds cX9_odds 2 (some .int)) 0 (entL 2 [.ref 0, .int x1]) [] M (RetQ cX9_odds (some .int) (RQI R M)) := by
  show WP l G tc D lay (fun _ => True) RX9 cX9_odds 2 rX9_odds (.code yX9_odds cX9_odds 2 (some .int)) 0 [some (.ref 0), some (.int x1)] [] M (RetQ cX9_odds (some .int) (RQI R M))
  unfold FX9_odds at h
  refine WP.iload_n dX9_odds_0 rfl rfl ?_
  refine WP.if_lt (tgt := 27) dX9_odds_1 (by decide) (fun c1 => ?_) (fun c1 => ?_)
  · rw [if_pos c1] at h
    refine WP.iconst (v := (-1)) dX9_odds_27 (by decide) ?_
    cases h
    exact WP.iret dX9_odds_28 ⟨rfl, rfl⟩
  · rw [if_neg c1] at h
    refine WP.iload_n dX9_odds_4 rfl rfl ?_
    refine WP.aload_n dX9_odds_5 rfl rfl ?_
    refine WP.getR (j := 4) dX9_odds_6 rfl rfl in_X9 (by decide) wd_315 rfl ?_
    refine WP.getI (j := 1) dX9_odds_9 rfl rfl in_X1 (by decide) wd_234 rfl ?_
    refine WP.icmp_ge (tgt := 27) dX9_odds_12 (by decide) (fun c2 => ?_) (fun c2 => ?_)
    · rw [if_pos c2] at h
      refine WP.iconst (v := (-1)) dX9_odds_27 (by decide) ?_
      cases h
      exact WP.iret dX9_odds_28 ⟨rfl, rfl⟩
    · rw [if_neg c2] at h
      refine WP.aload_n dX9_odds_15 rfl rfl ?_
      refine WP.getR (j := 4) dX9_odds_16 rfl rfl in_X9 (by decide) wd_315 rfl ?_
      refine WP.getR (j := 0) dX9_odds_19 rfl rfl in_X1 (by decide) wd_232 rfl ?_
      refine WP.iload_n dX9_odds_22 rfl rfl ?_
      obtain ⟨v3, h4, h⟩ := Option.bind_eq_some_iff.mp h
      refine WP.ialdQ dX9_odds_23 rfl h4 ?_
      refine WP.goto (tgt := 28) dX9_odds_24 (by decide) ?_
      cases h
      exact WP.iret dX9_odds_28 ⟨rfl, rfl⟩
/-! X9_seal -/
def rX9_seal : Room := { frames := 5, cells := 0, slots := 0, locals := 112 }
def FX9_seal (N : Nat) (x1 : Int32) (x2 : Int32) (M : Mm) : Option (Int32 × Mm) :=
  (FX9_hasDraft x1 M).bind fun r2 => (if r2 = 0 then some ((-1), M) else (if x2 < 1 then some ((-2), M) else (if x2 < ((1 : Int32) <<< ((M.1 2 6) &&& 31)) then (ckR 33 4 x1).bind fun k6 => (FX6_look N 37 k6 M).bind fun M9 => (ckR 33 4 x1).bind fun k10 => (FX5_add N x1 x2 k10 M9).bind fun p13 => some (p13.1, p13.2) else some ((-2), M))))
theorem eFX9_seal (N : Nat) (x1 : Int32) (x2 : Int32) (M : Mm) : FX9_seal N x1 x2 M = (FX9_hasDraft x1 M).bind fun r2 => (if r2 = 0 then some ((-1), M) else (if x2 < 1 then some ((-2), M) else (if x2 < ((1 : Int32) <<< ((M.1 2 6) &&& 31)) then (ckR 33 4 x1).bind fun k6 => (FX6_look N 37 k6 M).bind fun M9 => (ckR 33 4 x1).bind fun k10 => (FX5_add N x1 x2 k10 M9).bind fun p13 => some (p13.1, p13.2) else some ((-2), M)))) := rfl
set_option maxRecDepth 20000 in
theorem TX9_seal {l : Launch} {G : va_G} {tc : Nat → ClassId} {D : Nat → Nat} {N : Nat} {x1 : Int32} {x2 : Int32} {M : Mm} {R : (Int32 × Mm)} (h : FX9_seal N x1 x2 M = some R) : WP l G tc D lay (fun _ => True) yX9_seal.cls cX9_seal 3 rX9_seal (.code yX9_seal cX9_seal 3 (some .int)) 0 (entL 3 [.ref 0, .int x1, .int x2]) [] M (RetQ cX9_seal (some .int) (RQI R.1 R.2)) := by
  show WP l G tc D lay (fun _ => True) RX9 cX9_seal 3 rX9_seal (.code yX9_seal cX9_seal 3 (some .int)) 0 [some (.ref 0), some (.int x1), some (.int x2)] [] M (RetQ cX9_seal (some .int) (RQI R.1 R.2))
  unfold FX9_seal at h
  refine WP.aload_n dX9_seal_0 rfl rfl ?_
  refine WP.iload_n dX9_seal_1 rfl rfl ?_
  obtain ⟨r2, h1, h⟩ := Option.bind_eq_some_iff.mp h
  refine WP.callVI [.int x1] dX9_seal_2 lk_X9_182 rfl rfl rfl (Nat.le_of_ble_eq_true rfl) (by decide) (Nat.le_of_ble_eq_true rfl) rfl (TX9_hasDraft h1) ?_
  refine WP.if_ne (tgt := 10) dX9_seal_5 (by decide) (fun c3 => ?_) (fun c3 => ?_)
  · rw [if_neg c3] at h
    refine WP.iload_n dX9_seal_10 rfl rfl ?_
    refine WP.iconst (v := 1) dX9_seal_11 (by decide) ?_
    refine WP.icmp_lt (tgt := 31) dX9_seal_12 (by decide) (fun c4 => ?_) (fun c4 => ?_)
    · rw [if_pos c4] at h
      refine WP.bipush (v := (-2)) dX9_seal_31 (by decide) ?_
      cases h
      exact WP.iret dX9_seal_33 ⟨rfl, rfl⟩
    · rw [if_neg c4] at h
      refine WP.iload_n dX9_seal_15 rfl rfl ?_
      refine WP.iconst (v := 1) dX9_seal_16 (by decide) ?_
      refine WP.aload_n dX9_seal_17 rfl rfl ?_
      refine WP.getR (j := 0) dX9_seal_18 rfl rfl in_X9 (by decide) wd_311 rfl ?_
      refine WP.getR (j := 0) dX9_seal_21 rfl rfl in_X2 (by decide) wd_161 rfl ?_
      refine WP.getI (j := 6) dX9_seal_24 rfl rfl in_X0 (by decide) wd_109 rfl ?_
      refine WP.ishl dX9_seal_27 ?_
      refine WP.icmp_lt (tgt := 34) dX9_seal_28 (by decide) (fun c5 => ?_) (fun c5 => ?_)
      · rw [if_pos c5] at h
        refine WP.aload_n dX9_seal_34 rfl rfl ?_
        refine WP.getR (j := 3) dX9_seal_35 rfl rfl in_X9 (by decide) wd_314 rfl ?_
        refine WP.aload_n dX9_seal_38 rfl rfl ?_
        refine WP.getR (j := 0) dX9_seal_39 rfl rfl in_X9 (by decide) wd_311 rfl ?_
        refine WP.aload_n dX9_seal_42 rfl rfl ?_
        refine WP.getR (j := 2) dX9_seal_43 rfl rfl in_X9 (by decide) wd_313 rfl ?_
        refine WP.iload_n dX9_seal_46 rfl rfl ?_
        obtain ⟨k6, h7, h⟩ := Option.bind_eq_some_iff.mp h
        refine WP.aaldQ (base := 33) (n := 4) dX9_seal_47 rfl rfl h7 ?_
        have hk6 := rows_32 h7
        obtain ⟨M9, h8, h⟩ := Option.bind_eq_some_iff.mp h
        refine WP.callVV [.ref 1, .ref k6] dX9_seal_48 lk_X9_168 rfl rfl rfl (Nat.le_of_ble_eq_true rfl) (by decide) (Nat.le_of_ble_eq_true rfl) rfl (TX6_look (s := 37) (k2 := k6) rfl rfl rfl rfl hk6 h8) ?_
        refine WP.aload_n dX9_seal_51 rfl rfl ?_
        refine WP.getR (j := 5) dX9_seal_52 rfl rfl in_X9 (by decide) wd_316 rfl ?_
        refine WP.iload_n dX9_seal_55 rfl rfl ?_
        refine WP.iload_n dX9_seal_56 rfl rfl ?_
        refine WP.aload_n dX9_seal_57 rfl rfl ?_
        refine WP.getR (j := 2) dX9_seal_58 rfl rfl in_X9 (by decide) wd_313 rfl ?_
        refine WP.iload_n dX9_seal_61 rfl rfl ?_
        obtain ⟨k10, h11, h⟩ := Option.bind_eq_some_iff.mp h
        refine WP.aaldQ (base := 33) (n := 4) dX9_seal_62 rfl rfl h11 ?_
        have hk10 := rows_32 h11
        refine WP.aload_n dX9_seal_63 rfl rfl ?_
        refine WP.getR (j := 0) dX9_seal_64 rfl rfl in_X9 (by decide) wd_311 rfl ?_
        refine WP.getR (j := 0) dX9_seal_67 rfl rfl in_X2 (by decide) wd_161 rfl ?_
        refine WP.aload_n dX9_seal_70 rfl rfl ?_
        refine WP.getR (j := 3) dX9_seal_71 rfl rfl in_X9 (by decide) wd_314 rfl ?_
        obtain ⟨p13, h12, h⟩ := Option.bind_eq_some_iff.mp h
        refine WP.callVI [.int x1, .int x2, .ref k10, .ref 2, .ref 37] dX9_seal_74 lk_X9_199 rfl rfl rfl (Nat.le_of_ble_eq_true rfl) (by decide) (Nat.le_of_ble_eq_true rfl) rfl (TX5_add (k3 := k10) hk10 h12) ?_
        cases h
        exact WP.iret dX9_seal_77 ⟨rfl, rfl⟩
      · rw [if_neg c5] at h
        refine WP.bipush (v := (-2)) dX9_seal_31 (by decide) ?_
        cases h
        exact WP.iret dX9_seal_33 ⟨rfl, rfl⟩
  · rw [if_pos c3] at h
    refine WP.iconst (v := (-1)) dX9_seal_8 (by decide) ?_
    cases h
    exact WP.iret dX9_seal_9 ⟨rfl, rfl⟩
/-! X9_open -/
def rX9_open : Room := { frames := 1, cells := 0, slots := 0, locals := 21 }
def BX9_open_30 (a1 : Int32) (t0 : Int32) (M : Mm) : Option (Int32 × Mm) :=
  (FX9_truth t0 M).bind fun r2 => (wrZ M 46 6 a1 1).bind fun M3 => some (r2, M3)
def FX9_open (x1 : Int32) (M : Mm) : Option (Int32 × Mm) :=
  (FX5_has x1 M).bind fun r2 => (if r2 = 0 then some ((-1), M) else (rdI M 46 6 x1).bind fun v4 => (if v4 = 0 then BX9_open_30 x1 1 M else BX9_open_30 x1 0 M))
theorem eBX9_open_30 (a1 : Int32) (t0 : Int32) (M : Mm) : BX9_open_30 a1 t0 M = (FX9_truth t0 M).bind fun r2 => (wrZ M 46 6 a1 1).bind fun M3 => some (r2, M3) := rfl
theorem eFX9_open (x1 : Int32) (M : Mm) : FX9_open x1 M = (FX5_has x1 M).bind fun r2 => (if r2 = 0 then some ((-1), M) else (rdI M 46 6 x1).bind fun v4 => (if v4 = 0 then BX9_open_30 x1 1 M else BX9_open_30 x1 0 M)) := rfl
set_option maxRecDepth 20000 in
theorem tX9_open_30 {l : Launch} {G : va_G} {tc : Nat → ClassId} {D : Nat → Nat} {a1 : Int32} {t0 : Int32} {M : Mm} {R : (Int32 × Mm)} (h : BX9_open_30 a1 t0 M = some R) : WP l G tc D lay (fun _ => True) RX9 cX9_open 3 rX9_open (.code yX9_open cX9_open 3 (some .int)) 30 [some (.ref 0), some (.int a1), none] [.int t0] M (RetQ cX9_open (some .int) (RQI R.1 R.2)) := by
  unfold BX9_open_30 at h
  obtain ⟨r2, h1, h⟩ := Option.bind_eq_some_iff.mp h
  refine WP.callSI [.int t0] dX9_open_30 lk_X9_155 rfl (Nat.le_of_ble_eq_true rfl) (by decide) (Nat.le_of_ble_eq_true rfl) rfl (TX9_truth h1) ?_
  refine WP.istore_n dX9_open_33 rfl (by decide) rfl rfl ?_
  refine WP.aload_n dX9_open_34 rfl rfl ?_
  refine WP.getR (j := 5) dX9_open_35 rfl rfl in_X9 (by decide) wd_316 rfl ?_
  refine WP.getR (j := 2) dX9_open_38 rfl rfl in_X5 (by decide) wd_252 rfl ?_
  refine WP.iload_n dX9_open_41 rfl rfl ?_
  refine WP.iconst (v := 1) dX9_open_42 (by decide) ?_
  obtain ⟨M3, h4, h⟩ := Option.bind_eq_some_iff.mp h
  refine WP.zastQ dX9_open_43 rfl h4 ?_
  refine WP.iload_n dX9_open_44 rfl rfl ?_
  cases h
  exact WP.iret dX9_open_45 ⟨rfl, rfl⟩
set_option maxRecDepth 20000 in
theorem TX9_open {l : Launch} {G : va_G} {tc : Nat → ClassId} {D : Nat → Nat} {x1 : Int32} {M : Mm} {R : (Int32 × Mm)} (h : FX9_open x1 M = some R) : WP l G tc D lay (fun _ => True) yX9_open.cls cX9_open 3 rX9_open (.code yX9_open cX9_open 3 (some .int)) 0 (entL 3 [.ref 0, .int x1]) [] M (RetQ cX9_open (some .int) (RQI R.1 R.2)) := by
  show WP l G tc D lay (fun _ => True) RX9 cX9_open 3 rX9_open (.code yX9_open cX9_open 3 (some .int)) 0 [some (.ref 0), some (.int x1), none] [] M (RetQ cX9_open (some .int) (RQI R.1 R.2))
  unfold FX9_open at h
  refine WP.aload_n dX9_open_0 rfl rfl ?_
  refine WP.getR (j := 5) dX9_open_1 rfl rfl in_X9 (by decide) wd_316 rfl ?_
  refine WP.iload_n dX9_open_4 rfl rfl ?_
  obtain ⟨r2, h1, h⟩ := Option.bind_eq_some_iff.mp h
  refine WP.callVI [.int x1] dX9_open_5 lk_X9_202 rfl rfl rfl (Nat.le_of_ble_eq_true rfl) (by decide) (Nat.le_of_ble_eq_true rfl) rfl (TX5_has h1) ?_
  refine WP.if_ne (tgt := 13) dX9_open_8 (by decide) (fun c3 => ?_) (fun c3 => ?_)
  · rw [if_neg c3] at h
    refine WP.aload_n dX9_open_13 rfl rfl ?_
    refine WP.getR (j := 5) dX9_open_14 rfl rfl in_X9 (by decide) wd_316 rfl ?_
    refine WP.getR (j := 2) dX9_open_17 rfl rfl in_X5 (by decide) wd_252 rfl ?_
    refine WP.iload_n dX9_open_20 rfl rfl ?_
    obtain ⟨v4, h5, h⟩ := Option.bind_eq_some_iff.mp h
    refine WP.zaldQ dX9_open_21 rfl h5 ?_
    refine WP.if_ne (tgt := 29) dX9_open_22 (by decide) (fun c6 => ?_) (fun c6 => ?_)
    · rw [if_neg c6] at h
      refine WP.iconst (v := 0) dX9_open_29 (by decide) ?_
      refine WP.fgt [true, true, false] rfl ?_
      exact tX9_open_30  h
    · rw [if_pos c6] at h
      refine WP.iconst (v := 1) dX9_open_25 (by decide) ?_
      refine WP.goto (tgt := 30) dX9_open_26 (by decide) ?_
      refine WP.fgt [true, true, false] rfl ?_
      exact tX9_open_30  h
  · rw [if_pos c3] at h
    refine WP.iconst (v := (-1)) dX9_open_11 (by decide) ?_
    cases h
    exact WP.iret dX9_open_12 ⟨rfl, rfl⟩
/-! X9_isHolding -/
def rX9_isHolding : Room := { frames := 5, cells := 0, slots := 0, locals := 112 }
def FX9_isHolding (N : Nat) (x1 : Int32) (M : Mm) : Option (Int32 × Mm) :=
  (rdI M 46 6 x1).bind fun v1 => (if v1 = 0 then (rdI M 44 6 x1).bind fun v4 => (ckR 33 4 v4).bind fun k6 => (FX6_look N 37 k6 M).bind fun M9 => (FX5_agrees N x1 M9).bind fun r11 => (gdB r11).bind fun g12 => some (g12, M9) else some (0, M))
theorem eFX9_isHolding (N : Nat) (x1 : Int32) (M : Mm) : FX9_isHolding N x1 M = (rdI M 46 6 x1).bind fun v1 => (if v1 = 0 then (rdI M 44 6 x1).bind fun v4 => (ckR 33 4 v4).bind fun k6 => (FX6_look N 37 k6 M).bind fun M9 => (FX5_agrees N x1 M9).bind fun r11 => (gdB r11).bind fun g12 => some (g12, M9) else some (0, M)) := rfl
set_option maxRecDepth 20000 in
theorem TX9_isHolding {l : Launch} {G : va_G} {tc : Nat → ClassId} {D : Nat → Nat} {N : Nat} {x1 : Int32} {M : Mm} {R : (Int32 × Mm)} (h : FX9_isHolding N x1 M = some R) : WP l G tc D lay (fun _ => True) yX9_isHolding.cls cX9_isHolding 2 rX9_isHolding (.code yX9_isHolding cX9_isHolding 2 (some .boolean)) 0 (entL 2 [.ref 0, .int x1]) [] M (RetQ cX9_isHolding (some .boolean) (RQI R.1 R.2)) := by
  show WP l G tc D lay (fun _ => True) RX9 cX9_isHolding 2 rX9_isHolding (.code yX9_isHolding cX9_isHolding 2 (some .boolean)) 0 [some (.ref 0), some (.int x1)] [] M (RetQ cX9_isHolding (some .boolean) (RQI R.1 R.2))
  unfold FX9_isHolding at h
  refine WP.aload_n dX9_isHolding_0 rfl rfl ?_
  refine WP.getR (j := 5) dX9_isHolding_1 rfl rfl in_X9 (by decide) wd_316 rfl ?_
  refine WP.getR (j := 2) dX9_isHolding_4 rfl rfl in_X5 (by decide) wd_252 rfl ?_
  refine WP.iload_n dX9_isHolding_7 rfl rfl ?_
  obtain ⟨v1, h2, h⟩ := Option.bind_eq_some_iff.mp h
  refine WP.zaldQ dX9_isHolding_8 rfl h2 ?_
  refine WP.if_eq (tgt := 14) dX9_isHolding_9 (by decide) (fun c3 => ?_) (fun c3 => ?_)
  · rw [if_pos c3] at h
    refine WP.aload_n dX9_isHolding_14 rfl rfl ?_
    refine WP.getR (j := 3) dX9_isHolding_15 rfl rfl in_X9 (by decide) wd_314 rfl ?_
    refine WP.aload_n dX9_isHolding_18 rfl rfl ?_
    refine WP.getR (j := 0) dX9_isHolding_19 rfl rfl in_X9 (by decide) wd_311 rfl ?_
    refine WP.aload_n dX9_isHolding_22 rfl rfl ?_
    refine WP.getR (j := 2) dX9_isHolding_23 rfl rfl in_X9 (by decide) wd_313 rfl ?_
    refine WP.aload_n dX9_isHolding_26 rfl rfl ?_
    refine WP.getR (j := 5) dX9_isHolding_27 rfl rfl in_X9 (by decide) wd_316 rfl ?_
    refine WP.getR (j := 0) dX9_isHolding_30 rfl rfl in_X5 (by decide) wd_248 rfl ?_
    refine WP.iload_n dX9_isHolding_33 rfl rfl ?_
    obtain ⟨v4, h5, h⟩ := Option.bind_eq_some_iff.mp h
    refine WP.ialdQ dX9_isHolding_34 rfl h5 ?_
    obtain ⟨k6, h7, h⟩ := Option.bind_eq_some_iff.mp h
    refine WP.aaldQ (base := 33) (n := 4) dX9_isHolding_35 rfl rfl h7 ?_
    have hk6 := rows_32 h7
    obtain ⟨M9, h8, h⟩ := Option.bind_eq_some_iff.mp h
    refine WP.callVV [.ref 1, .ref k6] dX9_isHolding_36 lk_X9_168 rfl rfl rfl (Nat.le_of_ble_eq_true rfl) (by decide) (Nat.le_of_ble_eq_true rfl) rfl (TX6_look (s := 37) (k2 := k6) rfl rfl rfl rfl hk6 h8) ?_
    refine WP.aload_n dX9_isHolding_39 rfl rfl ?_
    refine WP.getR (j := 5) dX9_isHolding_40 rfl rfl in_X9 (by decide) wd_316 rfl ?_
    refine WP.iload_n dX9_isHolding_43 rfl rfl ?_
    refine WP.aload_n dX9_isHolding_44 rfl rfl ?_
    refine WP.getR (j := 0) dX9_isHolding_45 rfl rfl in_X9 (by decide) wd_311 rfl ?_
    refine WP.getR (j := 0) dX9_isHolding_48 rfl rfl in_X2 (by decide) wd_161 rfl ?_
    refine WP.aload_n dX9_isHolding_51 rfl rfl ?_
    refine WP.getR (j := 3) dX9_isHolding_52 rfl rfl in_X9 (by decide) wd_314 rfl ?_
    obtain ⟨r11, h10, h⟩ := Option.bind_eq_some_iff.mp h
    refine WP.callVI [.int x1, .ref 2, .ref 37] dX9_isHolding_55 lk_X9_254 rfl rfl rfl (Nat.le_of_ble_eq_true rfl) (by decide) (Nat.le_of_ble_eq_true rfl) rfl (TX5_agrees h10) ?_
    obtain ⟨g12, h13, h⟩ := Option.bind_eq_some_iff.mp h
    obtain ⟨rfl, h13⟩ := gdB_ok h13
    cases h
    exact WP.zret dX9_isHolding_58 h13 ⟨rfl, rfl⟩
  · rw [if_neg c3] at h
    refine WP.iconst (v := 0) dX9_isHolding_12 (by decide) ?_
    cases h
    exact WP.zret dX9_isHolding_13 (by decide) ⟨rfl, rfl⟩
/-! X9_sealed -/
def rX9_sealed : Room := { frames := 6, cells := 0, slots := 0, locals := 133 }
def BX9_sealed_89 (N : Nat) (a1 : Int32) (a2 : Int32) (M : Mm) : Option (Int32 × Mm) :=
  (if a2 = 0 then (rdI M 44 6 a1).bind fun v2 => some (v2, M) else (if a2 = 1 then (rdI M 45 6 a1).bind fun v5 => some (v5, M) else (if a2 = 2 then (rdI M 46 6 a1).bind fun v8 => (FX9_truth v8 M).bind fun r11 => some (r11, M) else (if a2 = 3 then (FX9_isHolding N a1 M).bind fun p14 => (FX9_truth p14.1 p14.2).bind fun r16 => some (r16, p14.2) else some ((-2), M)))))
def BX9_sealed_51 (N : Nat) (a1 : Int32) (a2 : Int32) (M : Mm) : Option (Int32 × Mm) :=
  (if a2 < 10 then BX9_sealed_89 N a1 a2 M else (FX0_has (a2 - 10) M).bind fun r3 => (if r3 = 0 then BX9_sealed_89 N a1 a2 M else (ckR 48 6 a1).bind fun k5 => (rdI M k5 12 (a2 - 10)).bind fun v7 => some (v7, M)))
def FX9_sealed (N : Nat) (x1 : Int32) (x2 : Int32) (M : Mm) : Option (Int32 × Mm) :=
  (FX5_has x1 M).bind fun r2 => (if r2 = 0 then some ((-1), M) else (if x2 < 30 then BX9_sealed_51 N x1 x2 M else (FX0_has (x2 - 30) M).bind fun r6 => (if r6 = 0 then BX9_sealed_51 N x1 x2 M else (ckR 55 6 x1).bind fun k8 => (rdI M k8 12 (x2 - 30)).bind fun v10 => some (v10, M))))
theorem eBX9_sealed_89 (N : Nat) (a1 : Int32) (a2 : Int32) (M : Mm) : BX9_sealed_89 N a1 a2 M = (if a2 = 0 then (rdI M 44 6 a1).bind fun v2 => some (v2, M) else (if a2 = 1 then (rdI M 45 6 a1).bind fun v5 => some (v5, M) else (if a2 = 2 then (rdI M 46 6 a1).bind fun v8 => (FX9_truth v8 M).bind fun r11 => some (r11, M) else (if a2 = 3 then (FX9_isHolding N a1 M).bind fun p14 => (FX9_truth p14.1 p14.2).bind fun r16 => some (r16, p14.2) else some ((-2), M))))) := rfl
theorem eBX9_sealed_51 (N : Nat) (a1 : Int32) (a2 : Int32) (M : Mm) : BX9_sealed_51 N a1 a2 M = (if a2 < 10 then BX9_sealed_89 N a1 a2 M else (FX0_has (a2 - 10) M).bind fun r3 => (if r3 = 0 then BX9_sealed_89 N a1 a2 M else (ckR 48 6 a1).bind fun k5 => (rdI M k5 12 (a2 - 10)).bind fun v7 => some (v7, M))) := rfl
theorem eFX9_sealed (N : Nat) (x1 : Int32) (x2 : Int32) (M : Mm) : FX9_sealed N x1 x2 M = (FX5_has x1 M).bind fun r2 => (if r2 = 0 then some ((-1), M) else (if x2 < 30 then BX9_sealed_51 N x1 x2 M else (FX0_has (x2 - 30) M).bind fun r6 => (if r6 = 0 then BX9_sealed_51 N x1 x2 M else (ckR 55 6 x1).bind fun k8 => (rdI M k8 12 (x2 - 30)).bind fun v10 => some (v10, M)))) := rfl
set_option maxRecDepth 20000 in
theorem tX9_sealed_89 {l : Launch} {G : va_G} {tc : Nat → ClassId} {D : Nat → Nat} {N : Nat} {a1 : Int32} {a2 : Int32} {M : Mm} {R : (Int32 × Mm)} (h : BX9_sealed_89 N a1 a2 M = some R) : WP l G tc D lay (fun _ => True) RX9 cX9_sealed 3 rX9_sealed (.code yX9_sealed cX9_sealed 3 (some .int)) 89 [some (.ref 0), some (.int a1), some (.int a2)] [] M (RetQ cX9_sealed (some .int) (RQI R.1 R.2)) := by
  unfold BX9_sealed_89 at h
  refine WP.iload_n dX9_sealed_89 rfl rfl ?_
  by_cases c1 : a2 = 0
  · rw [if_pos c1] at h
    refine WP.tbl (off := 30) (tgt := 120) dX9_sealed_90 (by rw [c1]; decide) (by decide) ?_
    refine WP.aload_n dX9_sealed_120 rfl rfl ?_
    refine WP.getR (j := 5) dX9_sealed_121 rfl rfl in_X9 (by decide) wd_316 rfl ?_
    refine WP.getR (j := 0) dX9_sealed_124 rfl rfl in_X5 (by decide) wd_248 rfl ?_
    refine WP.iload_n dX9_sealed_127 rfl rfl ?_
    obtain ⟨v2, h3, h⟩ := Option.bind_eq_some_iff.mp h
    refine WP.ialdQ dX9_sealed_128 rfl h3 ?_
    cases h
    exact WP.iret dX9_sealed_129 ⟨rfl, rfl⟩
  · rw [if_neg c1] at h
    by_cases c4 : a2 = 1
    · rw [if_pos c4] at h
      refine WP.tbl (off := 40) (tgt := 130) dX9_sealed_90 (by rw [c4]; decide) (by decide) ?_
      refine WP.aload_n dX9_sealed_130 rfl rfl ?_
      refine WP.getR (j := 5) dX9_sealed_131 rfl rfl in_X9 (by decide) wd_316 rfl ?_
      refine WP.getR (j := 1) dX9_sealed_134 rfl rfl in_X5 (by decide) wd_250 rfl ?_
      refine WP.iload_n dX9_sealed_137 rfl rfl ?_
      obtain ⟨v5, h6, h⟩ := Option.bind_eq_some_iff.mp h
      refine WP.ialdQ dX9_sealed_138 rfl h6 ?_
      cases h
      exact WP.iret dX9_sealed_139 ⟨rfl, rfl⟩
    · rw [if_neg c4] at h
      by_cases c7 : a2 = 2
      · rw [if_pos c7] at h
        refine WP.tbl (off := 50) (tgt := 140) dX9_sealed_90 (by rw [c7]; decide) (by decide) ?_
        refine WP.aload_n dX9_sealed_140 rfl rfl ?_
        refine WP.getR (j := 5) dX9_sealed_141 rfl rfl in_X9 (by decide) wd_316 rfl ?_
        refine WP.getR (j := 2) dX9_sealed_144 rfl rfl in_X5 (by decide) wd_252 rfl ?_
        refine WP.iload_n dX9_sealed_147 rfl rfl ?_
        obtain ⟨v8, h9, h⟩ := Option.bind_eq_some_iff.mp h
        refine WP.zaldQ dX9_sealed_148 rfl h9 ?_
        obtain ⟨r11, h10, h⟩ := Option.bind_eq_some_iff.mp h
        refine WP.callSI [.int v8] dX9_sealed_149 lk_X9_155 rfl (Nat.le_of_ble_eq_true rfl) (by decide) (Nat.le_of_ble_eq_true rfl) rfl (TX9_truth h10) ?_
        cases h
        exact WP.iret dX9_sealed_152 ⟨rfl, rfl⟩
      · rw [if_neg c7] at h
        by_cases c12 : a2 = 3
        · rw [if_pos c12] at h
          refine WP.tbl (off := 63) (tgt := 153) dX9_sealed_90 (by rw [c12]; decide) (by decide) ?_
          refine WP.aload_n dX9_sealed_153 rfl rfl ?_
          refine WP.iload_n dX9_sealed_154 rfl rfl ?_
          obtain ⟨p14, h13, h⟩ := Option.bind_eq_some_iff.mp h
          refine WP.callVI [.int a1] dX9_sealed_155 lk_X9_217 rfl rfl rfl (Nat.le_of_ble_eq_true rfl) (by decide) (Nat.le_of_ble_eq_true rfl) rfl (TX9_isHolding h13) ?_
          obtain ⟨r16, h15, h⟩ := Option.bind_eq_some_iff.mp h
          refine WP.callSI [.int p14.1] dX9_sealed_158 lk_X9_155 rfl (Nat.le_of_ble_eq_true rfl) (by decide) (Nat.le_of_ble_eq_true rfl) rfl (TX9_truth h15) ?_
          cases h
          exact WP.iret dX9_sealed_161 ⟨rfl, rfl⟩
        · rw [if_neg c12] at h
          refine WP.tbl (off := 72) (tgt := 162) dX9_sealed_90 (by
              have n0 := lv_neT (k := 0) (a := 0) (fun z => c1 (z)) (by decide)
              have n1 := lv_neT (k := 1) (a := 1) (fun z => c4 (z)) (by decide)
              have n2 := lv_neT (k := 2) (a := 2) (fun z => c7 (z)) (by decide)
              have n3 := lv_neT (k := 3) (a := 3) (fun z => c12 (z)) (by decide)
              exact swT_def (by omega)) (by decide) ?_
          refine WP.bipush (v := (-2)) dX9_sealed_162 (by decide) ?_
          cases h
          exact WP.iret dX9_sealed_164 ⟨rfl, rfl⟩
set_option maxRecDepth 20000 in
theorem tX9_sealed_51 {l : Launch} {G : va_G} {tc : Nat → ClassId} {D : Nat → Nat} {N : Nat} {a1 : Int32} {a2 : Int32} {M : Mm} {R : (Int32 × Mm)} (h : BX9_sealed_51 N a1 a2 M = some R) : WP l G tc D lay (fun _ => True) RX9 cX9_sealed 3 rX9_sealed (.code yX9_sealed cX9_sealed 3 (some .int)) 51 [some (.ref 0), some (.int a1), some (.int a2)] [] M (RetQ cX9_sealed (some .int) (RQI R.1 R.2)) := by
  unfold BX9_sealed_51 at h
  refine WP.iload_n dX9_sealed_51 rfl rfl ?_
  refine WP.bipush (v := 10) dX9_sealed_52 (by decide) ?_
  refine WP.icmp_lt (tgt := 89) dX9_sealed_54 (by decide) (fun c1 => ?_) (fun c1 => ?_)
  · rw [if_pos c1] at h
    refine WP.fgt [true, true, true] rfl ?_
    exact tX9_sealed_89  h
  · rw [if_neg c1] at h
    refine WP.aload_n dX9_sealed_57 rfl rfl ?_
    refine WP.getR (j := 0) dX9_sealed_58 rfl rfl in_X9 (by decide) wd_311 rfl ?_
    refine WP.getR (j := 0) dX9_sealed_61 rfl rfl in_X2 (by decide) wd_161 rfl ?_
    refine WP.iload_n dX9_sealed_64 rfl rfl ?_
    refine WP.bipush (v := 10) dX9_sealed_65 (by decide) ?_
    refine WP.isub dX9_sealed_67 ?_
    obtain ⟨r3, h2, h⟩ := Option.bind_eq_some_iff.mp h
    refine WP.callVI [.int (a2 - 10)] dX9_sealed_68 lk_X9_98 rfl rfl rfl (Nat.le_of_ble_eq_true rfl) (by decide) (Nat.le_of_ble_eq_true rfl) rfl (TX0_has h2) ?_
    refine WP.if_eq (tgt := 89) dX9_sealed_71 (by decide) (fun c4 => ?_) (fun c4 => ?_)
    · rw [if_pos c4] at h
      refine WP.fgt [true, true, true] rfl ?_
      exact tX9_sealed_89  h
    · rw [if_neg c4] at h
      refine WP.aload_n dX9_sealed_74 rfl rfl ?_
      refine WP.getR (j := 5) dX9_sealed_75 rfl rfl in_X9 (by decide) wd_316 rfl ?_
      refine WP.getR (j := 3) dX9_sealed_78 rfl rfl in_X5 (by decide) wd_254 rfl ?_
      refine WP.iload_n dX9_sealed_81 rfl rfl ?_
      obtain ⟨k5, h6, h⟩ := Option.bind_eq_some_iff.mp h
      refine WP.aaldQ (base := 48) (n := 6) dX9_sealed_82 rfl rfl h6 ?_
      have hk5 := rows_47 h6
      refine WP.iload_n dX9_sealed_83 rfl rfl ?_
      refine WP.bipush (v := 10) dX9_sealed_84 (by decide) ?_
      refine WP.isub dX9_sealed_86 ?_
      obtain ⟨v7, h8, h⟩ := Option.bind_eq_some_iff.mp h
      refine WP.ialdQ dX9_sealed_87 hk5 h8 ?_
      cases h
      exact WP.iret dX9_sealed_88 ⟨rfl, rfl⟩
set_option maxRecDepth 20000 in
theorem TX9_sealed {l : Launch} {G : va_G} {tc : Nat → ClassId} {D : Nat → Nat} {N : Nat} {x1 : Int32} {x2 : Int32} {M : Mm} {R : (Int32 × Mm)} (h : FX9_sealed N x1 x2 M = some R) : WP l G tc D lay (fun _ => True) yX9_sealed.cls cX9_sealed 3 rX9_sealed (.code yX9_sealed cX9_sealed 3 (some .int)) 0 (entL 3 [.ref 0, .int x1, .int x2]) [] M (RetQ cX9_sealed (some .int) (RQI R.1 R.2)) := by
  show WP l G tc D lay (fun _ => True) RX9 cX9_sealed 3 rX9_sealed (.code yX9_sealed cX9_sealed 3 (some .int)) 0 [some (.ref 0), some (.int x1), some (.int x2)] [] M (RetQ cX9_sealed (some .int) (RQI R.1 R.2))
  unfold FX9_sealed at h
  refine WP.aload_n dX9_sealed_0 rfl rfl ?_
  refine WP.getR (j := 5) dX9_sealed_1 rfl rfl in_X9 (by decide) wd_316 rfl ?_
  refine WP.iload_n dX9_sealed_4 rfl rfl ?_
  obtain ⟨r2, h1, h⟩ := Option.bind_eq_some_iff.mp h
  refine WP.callVI [.int x1] dX9_sealed_5 lk_X9_202 rfl rfl rfl (Nat.le_of_ble_eq_true rfl) (by decide) (Nat.le_of_ble_eq_true rfl) rfl (TX5_has h1) ?_
  refine WP.if_ne (tgt := 13) dX9_sealed_8 (by decide) (fun c3 => ?_) (fun c3 => ?_)
  · rw [if_neg c3] at h
    refine WP.iload_n dX9_sealed_13 rfl rfl ?_
    refine WP.bipush (v := 30) dX9_sealed_14 (by decide) ?_
    refine WP.icmp_lt (tgt := 51) dX9_sealed_16 (by decide) (fun c4 => ?_) (fun c4 => ?_)
    · rw [if_pos c4] at h
      refine WP.fgt [true, true, true] rfl ?_
      exact tX9_sealed_51  h
    · rw [if_neg c4] at h
      refine WP.aload_n dX9_sealed_19 rfl rfl ?_
      refine WP.getR (j := 0) dX9_sealed_20 rfl rfl in_X9 (by decide) wd_311 rfl ?_
      refine WP.getR (j := 0) dX9_sealed_23 rfl rfl in_X2 (by decide) wd_161 rfl ?_
      refine WP.iload_n dX9_sealed_26 rfl rfl ?_
      refine WP.bipush (v := 30) dX9_sealed_27 (by decide) ?_
      refine WP.isub dX9_sealed_29 ?_
      obtain ⟨r6, h5, h⟩ := Option.bind_eq_some_iff.mp h
      refine WP.callVI [.int (x2 - 30)] dX9_sealed_30 lk_X9_98 rfl rfl rfl (Nat.le_of_ble_eq_true rfl) (by decide) (Nat.le_of_ble_eq_true rfl) rfl (TX0_has h5) ?_
      refine WP.if_eq (tgt := 51) dX9_sealed_33 (by decide) (fun c7 => ?_) (fun c7 => ?_)
      · rw [if_pos c7] at h
        refine WP.fgt [true, true, true] rfl ?_
        exact tX9_sealed_51  h
      · rw [if_neg c7] at h
        refine WP.aload_n dX9_sealed_36 rfl rfl ?_
        refine WP.getR (j := 5) dX9_sealed_37 rfl rfl in_X9 (by decide) wd_316 rfl ?_
        refine WP.getR (j := 4) dX9_sealed_40 rfl rfl in_X5 (by decide) wd_256 rfl ?_
        refine WP.iload_n dX9_sealed_43 rfl rfl ?_
        obtain ⟨k8, h9, h⟩ := Option.bind_eq_some_iff.mp h
        refine WP.aaldQ (base := 55) (n := 6) dX9_sealed_44 rfl rfl h9 ?_
        have hk8 := rows_54 h9
        refine WP.iload_n dX9_sealed_45 rfl rfl ?_
        refine WP.bipush (v := 30) dX9_sealed_46 (by decide) ?_
        refine WP.isub dX9_sealed_48 ?_
        obtain ⟨v10, h11, h⟩ := Option.bind_eq_some_iff.mp h
        refine WP.ialdQ dX9_sealed_49 hk8 h11 ?_
        cases h
        exact WP.iret dX9_sealed_50 ⟨rfl, rfl⟩
  · rw [if_pos c3] at h
    refine WP.iconst (v := (-1)) dX9_sealed_11 (by decide) ?_
    cases h
    exact WP.iret dX9_sealed_12 ⟨rfl, rfl⟩
/-! X9_reach -/
def rX9_reach : Room := { frames := 6, cells := 0, slots := 0, locals := 137 }
def FX9_reach (N : Nat) (x1 : Int32) (M : Mm) : Option (Int32 × Mm) :=
  (FX0_has x1 M).bind fun r2 => (if r2 = 0 then some ((-1), M) else (FX8_run N x1 M).bind fun p5 => some (p5.1, p5.2))
theorem eFX9_reach (N : Nat) (x1 : Int32) (M : Mm) : FX9_reach N x1 M = (FX0_has x1 M).bind fun r2 => (if r2 = 0 then some ((-1), M) else (FX8_run N x1 M).bind fun p5 => some (p5.1, p5.2)) := rfl
set_option maxRecDepth 20000 in
theorem TX9_reach {l : Launch} {G : va_G} {tc : Nat → ClassId} {D : Nat → Nat} {N : Nat} {x1 : Int32} {M : Mm} {R : (Int32 × Mm)} (h : FX9_reach N x1 M = some R) : WP l G tc D lay (fun _ => True) yX9_reach.cls cX9_reach 2 rX9_reach (.code yX9_reach cX9_reach 2 (some .int)) 0 (entL 2 [.ref 0, .int x1]) [] M (RetQ cX9_reach (some .int) (RQI R.1 R.2)) := by
  show WP l G tc D lay (fun _ => True) RX9 cX9_reach 2 rX9_reach (.code yX9_reach cX9_reach 2 (some .int)) 0 [some (.ref 0), some (.int x1)] [] M (RetQ cX9_reach (some .int) (RQI R.1 R.2))
  unfold FX9_reach at h
  refine WP.aload_n dX9_reach_0 rfl rfl ?_
  refine WP.getR (j := 0) dX9_reach_1 rfl rfl in_X9 (by decide) wd_311 rfl ?_
  refine WP.getR (j := 0) dX9_reach_4 rfl rfl in_X2 (by decide) wd_161 rfl ?_
  refine WP.iload_n dX9_reach_7 rfl rfl ?_
  obtain ⟨r2, h1, h⟩ := Option.bind_eq_some_iff.mp h
  refine WP.callVI [.int x1] dX9_reach_8 lk_X9_98 rfl rfl rfl (Nat.le_of_ble_eq_true rfl) (by decide) (Nat.le_of_ble_eq_true rfl) rfl (TX0_has h1) ?_
  refine WP.if_eq (tgt := 29) dX9_reach_11 (by decide) (fun c3 => ?_) (fun c3 => ?_)
  · rw [if_pos c3] at h
    refine WP.iconst (v := (-1)) dX9_reach_29 (by decide) ?_
    cases h
    exact WP.iret dX9_reach_30 ⟨rfl, rfl⟩
  · rw [if_neg c3] at h
    refine WP.aload_n dX9_reach_14 rfl rfl ?_
    refine WP.getR (j := 6) dX9_reach_15 rfl rfl in_X9 (by decide) wd_317 rfl ?_
    refine WP.aload_n dX9_reach_18 rfl rfl ?_
    refine WP.getR (j := 0) dX9_reach_19 rfl rfl in_X9 (by decide) wd_311 rfl ?_
    refine WP.iload_n dX9_reach_22 rfl rfl ?_
    obtain ⟨p5, h4, h⟩ := Option.bind_eq_some_iff.mp h
    refine WP.callVI [.ref 1, .int x1] dX9_reach_23 lk_X9_220 rfl rfl rfl (Nat.le_of_ble_eq_true rfl) (by decide) (Nat.le_of_ble_eq_true rfl) rfl (TX8_run h4) ?_
    refine WP.goto (tgt := 30) dX9_reach_26 (by decide) ?_
    cases h
    exact WP.iret dX9_reach_30 ⟨rfl, rfl⟩
/-! X9_found -/
def rX9_found : Room := { frames := 1, cells := 0, slots := 0, locals := 21 }
def FX9_found (x1 : Int32) (M : Mm) : Option Int32 :=
  (FX0_has x1 M).bind fun r2 => (if r2 = 0 then some (-2000000000) else (rdI M 62 12 x1).bind fun v4 => some v4)
theorem eFX9_found (x1 : Int32) (M : Mm) : FX9_found x1 M = (FX0_has x1 M).bind fun r2 => (if r2 = 0 then some (-2000000000) else (rdI M 62 12 x1).bind fun v4 => some v4) := rfl
set_option maxRecDepth 20000 in
theorem TX9_found {l : Launch} {G : va_G} {tc : Nat → ClassId} {D : Nat → Nat} {x1 : Int32} {M : Mm} {R : Int32} (h : FX9_found x1 M = some R) : WP l G tc D lay (fun _ => True) yX9_found.cls cX9_found 2 rX9_found (.code yX9_found cX9_found 2 (some .int)) 0 (entL 2 [.ref 0, .int x1]) [] M (RetQ cX9_found (some .int) (RQI R M)) := by
  show WP l G tc D lay (fun _ => True) RX9 cX9_found 2 rX9_found (.code yX9_found cX9_found 2 (some .int)) 0 [some (.ref 0), some (.int x1)] [] M (RetQ cX9_found (some .int) (RQI R M))
  unfold FX9_found at h
  refine WP.aload_n dX9_found_0 rfl rfl ?_
  refine WP.getR (j := 0) dX9_found_1 rfl rfl in_X9 (by decide) wd_311 rfl ?_
  refine WP.getR (j := 0) dX9_found_4 rfl rfl in_X2 (by decide) wd_161 rfl ?_
  refine WP.iload_n dX9_found_7 rfl rfl ?_
  obtain ⟨r2, h1, h⟩ := Option.bind_eq_some_iff.mp h
  refine WP.callVI [.int x1] dX9_found_8 lk_X9_98 rfl rfl rfl (Nat.le_of_ble_eq_true rfl) (by decide) (Nat.le_of_ble_eq_true rfl) rfl (TX0_has h1) ?_
  refine WP.if_eq (tgt := 26) dX9_found_11 (by decide) (fun c3 => ?_) (fun c3 => ?_)
  · rw [if_pos c3] at h
    refine WP.ldc (v := (-2000000000)) dX9_found_26 wd_202 ?_
    cases h
    exact WP.iret dX9_found_28 ⟨rfl, rfl⟩
  · rw [if_neg c3] at h
    refine WP.aload_n dX9_found_14 rfl rfl ?_
    refine WP.getR (j := 6) dX9_found_15 rfl rfl in_X9 (by decide) wd_317 rfl ?_
    refine WP.getR (j := 0) dX9_found_18 rfl rfl in_X8 (by decide) wd_283 rfl ?_
    refine WP.iload_n dX9_found_21 rfl rfl ?_
    obtain ⟨v4, h5, h⟩ := Option.bind_eq_some_iff.mp h
    refine WP.ialdQ dX9_found_22 rfl h5 ?_
    refine WP.goto (tgt := 28) dX9_found_23 (by decide) ?_
    cases h
    exact WP.iret dX9_found_28 ⟨rfl, rfl⟩
/-! X9_tried -/
def rX9_tried : Room := { frames := 0, cells := 0, slots := 0, locals := 0 }
def FX9_tried (M : Mm) : Option Int32 :=
  some (M.1 61 4)
theorem eFX9_tried (M : Mm) : FX9_tried M = some (M.1 61 4) := rfl
set_option maxRecDepth 20000 in
theorem TX9_tried {l : Launch} {G : va_G} {tc : Nat → ClassId} {D : Nat → Nat} {M : Mm} {R : Int32} (h : FX9_tried M = some R) : WP l G tc D lay (fun _ => True) yX9_tried.cls cX9_tried 1 rX9_tried (.code yX9_tried cX9_tried 1 (some .int)) 0 (entL 1 [.ref 0]) [] M (RetQ cX9_tried (some .int) (RQI R M)) := by
  show WP l G tc D lay (fun _ => True) RX9 cX9_tried 1 rX9_tried (.code yX9_tried cX9_tried 1 (some .int)) 0 [some (.ref 0)] [] M (RetQ cX9_tried (some .int) (RQI R M))
  unfold FX9_tried at h
  refine WP.aload_n dX9_tried_0 rfl rfl ?_
  refine WP.getR (j := 6) dX9_tried_1 rfl rfl in_X9 (by decide) wd_317 rfl ?_
  refine WP.getI (j := 4) dX9_tried_4 rfl rfl in_X8 (by decide) wd_288 rfl ?_
  cases h
  exact WP.iret dX9_tried_7 ⟨rfl, rfl⟩
/-! X9_countHolding -/
def rX9_countHolding : Room := { frames := 6, cells := 0, slots := 0, locals := 133 }
def BX9_countHolding_4 (N : Nat) (K4 : Int32 × Int32 × Mm → Option (Int32 × Mm)) (q : Int32 × Int32 × Mm) : Option (Int32 × Mm) :=
  (if (q.2.2.1 43 5) ≤ q.2.1 then some (q.1, q.2.2) else (FX9_isHolding N q.2.1 q.2.2).bind fun p3 => (FX9_truth p3.1 p3.2).bind fun r5 => K4 ((q.1 + r5), (q.2.1 + 1), p3.2))
def FX9_countHolding (N : Nat) (M : Mm) : Option (Int32 × Mm) :=
  lp (BX9_countHolding_4 N) N (0, 0, M)
theorem eBX9_countHolding_4 (N : Nat) (K4 : Int32 × Int32 × Mm → Option (Int32 × Mm)) (q : Int32 × Int32 × Mm) : BX9_countHolding_4 N K4 q = (if (q.2.2.1 43 5) ≤ q.2.1 then some (q.1, q.2.2) else (FX9_isHolding N q.2.1 q.2.2).bind fun p3 => (FX9_truth p3.1 p3.2).bind fun r5 => K4 ((q.1 + r5), (q.2.1 + 1), p3.2)) := rfl
theorem eFX9_countHolding (N : Nat) (M : Mm) : FX9_countHolding N M = lp (BX9_countHolding_4 N) N (0, 0, M) := rfl
set_option maxRecDepth 20000 in
theorem tX9_countHolding_4 {l : Launch} {G : va_G} {tc : Nat → ClassId} {D : Nat → Nat} {N : Nat} : ∀ (nn : Nat) (q : Int32 × Int32 × Mm) (R : (Int32 × Mm)), lp (BX9_countHolding_4 N) nn q = some R → WP l G tc D lay (fun _ => True) RX9 cX9_countHolding 3 rX9_countHolding (.code yX9_countHolding cX9_countHolding 3 (some .int)) 4 [some (.ref 0), some (.int q.1), some (.int q.2.1)] [] q.2.2 (RetQ cX9_countHolding (some .int) (RQI R.1 R.2)) := by
  refine lp_ind (fun K4 hK4q q R h => ?_)
  have hK4 : ∀ (z0 : Int32) (z1 : Int32) (z2 : Mm) (R : (Int32 × Mm)), K4 (z0, z1, z2) = some R → WP l G tc D lay (fun _ => True) RX9 cX9_countHolding 3 rX9_countHolding (.code yX9_countHolding cX9_countHolding 3 (some .int)) 4 [some (.ref 0), some (.int z0), some (.int z1)] [] z2 (RetQ cX9_countHolding (some .int) (RQI R.1 R.2)) := fun z0 z1 z2 R hh => hK4q (z0, z1, z2) R hh
  unfold BX9_countHolding_4 at h
  refine WP.iload_n dX9_countHolding_4 rfl rfl ?_
  refine WP.aload_n dX9_countHolding_5 rfl rfl ?_
  refine WP.getR (j := 5) dX9_countHolding_6 rfl rfl in_X9 (by decide) wd_316 rfl ?_
  refine WP.getI (j := 5) dX9_countHolding_9 rfl rfl in_X5 (by decide) wd_258 rfl ?_
  refine WP.icmp_ge (tgt := 32) dX9_countHolding_12 (by decide) (fun c1 => ?_) (fun c1 => ?_)
  · rw [if_pos c1] at h
    refine WP.iload_n dX9_countHolding_32 rfl rfl ?_
    cases h
    exact WP.iret dX9_countHolding_33 ⟨rfl, rfl⟩
  · rw [if_neg c1] at h
    refine WP.iload_n dX9_countHolding_15 rfl rfl ?_
    refine WP.aload_n dX9_countHolding_16 rfl rfl ?_
    refine WP.iload_n dX9_countHolding_17 rfl rfl ?_
    obtain ⟨p3, h2, h⟩ := Option.bind_eq_some_iff.mp h
    refine WP.callVI [.int q.2.1] dX9_countHolding_18 lk_X9_217 rfl rfl rfl (Nat.le_of_ble_eq_true rfl) (by decide) (Nat.le_of_ble_eq_true rfl) rfl (TX9_isHolding h2) ?_
    obtain ⟨r5, h4, h⟩ := Option.bind_eq_some_iff.mp h
    refine WP.callSI [.int p3.1] dX9_countHolding_21 lk_X9_155 rfl (Nat.le_of_ble_eq_true rfl) (by decide) (Nat.le_of_ble_eq_true rfl) rfl (TX9_truth h4) ?_
    refine WP.iadd dX9_countHolding_24 ?_
    refine WP.istore_n dX9_countHolding_25 rfl (by decide) rfl rfl ?_
    refine WP.iinc (v := (q.2.1 + 1)) dX9_countHolding_26 rfl rfl (by decide) rfl rfl ?_
    refine WP.goto (tgt := 4) dX9_countHolding_29 (by decide) ?_
    refine WP.fgt [true, true, true] rfl ?_
    exact hK4 (q.1 + r5) (q.2.1 + 1) p3.2 _ h
theorem uX9_countHolding_4 {l : Launch} {G : va_G} {tc : Nat → ClassId} {D : Nat → Nat} {N : Nat} (nn : Nat) : ∀ (z0 : Int32) (z1 : Int32) (z2 : Mm) (R : (Int32 × Mm)), lp (BX9_countHolding_4 N) nn (z0, z1, z2) = some R → WP l G tc D lay (fun _ => True) RX9 cX9_countHolding 3 rX9_countHolding (.code yX9_countHolding cX9_countHolding 3 (some .int)) 4 [some (.ref 0), some (.int z0), some (.int z1)] [] z2 (RetQ cX9_countHolding (some .int) (RQI R.1 R.2)) := fun z0 z1 z2 R hh => tX9_countHolding_4  nn (z0, z1, z2) R hh
set_option maxRecDepth 20000 in
theorem TX9_countHolding {l : Launch} {G : va_G} {tc : Nat → ClassId} {D : Nat → Nat} {N : Nat} {M : Mm} {R : (Int32 × Mm)} (h : FX9_countHolding N M = some R) : WP l G tc D lay (fun _ => True) yX9_countHolding.cls cX9_countHolding 3 rX9_countHolding (.code yX9_countHolding cX9_countHolding 3 (some .int)) 0 (entL 3 [.ref 0]) [] M (RetQ cX9_countHolding (some .int) (RQI R.1 R.2)) := by
  show WP l G tc D lay (fun _ => True) RX9 cX9_countHolding 3 rX9_countHolding (.code yX9_countHolding cX9_countHolding 3 (some .int)) 0 [some (.ref 0), none, none] [] M (RetQ cX9_countHolding (some .int) (RQI R.1 R.2))
  unfold FX9_countHolding at h
  refine WP.iconst (v := 0) dX9_countHolding_0 (by decide) ?_
  refine WP.istore_n dX9_countHolding_1 rfl (by decide) rfl rfl ?_
  refine WP.iconst (v := 0) dX9_countHolding_2 (by decide) ?_
  refine WP.istore_n dX9_countHolding_3 rfl (by decide) rfl rfl ?_
  refine WP.fgt [true, true, true] rfl ?_
  exact uX9_countHolding_4  N 0 0 M _ h
/-! X9_countAnswers -/
def rX9_countAnswers : Room := { frames := 1, cells := 0, slots := 0, locals := 20 }
def BX9_countAnswers_37 (N : Nat) (K4 : Int32 × Int32 × Int32 → Option Int32) (a1 : Int32) (a3 : Int32) (t0 : Int32) (t1 : Int32) (M : Mm) : Option Int32 :=
  (FX9_truth t1 M).bind fun r2 => K4 (a1, (t0 + r2), (a3 + 1))
def BX9_countAnswers_4 (N : Nat) (M : Mm) (K4 : Int32 × Int32 × Int32 → Option Int32) (q : Int32 × Int32 × Int32) : Option Int32 :=
  (if (M.1 2 6) ≤ q.2.2 then some q.2.1 else (ckR 33 4 q.1).bind fun k2 => (rdI M k2 12 q.2.2).bind fun v4 => (if v4 = (-2000000000) then BX9_countAnswers_37 N K4 q.1 q.2.2 q.2.1 0 M else BX9_countAnswers_37 N K4 q.1 q.2.2 q.2.1 1 M))
def FX9_countAnswers (N : Nat) (x1 : Int32) (M : Mm) : Option Int32 :=
  lp (BX9_countAnswers_4 N M) N (x1, 0, 0)
theorem eBX9_countAnswers_37 (N : Nat) (K4 : Int32 × Int32 × Int32 → Option Int32) (a1 : Int32) (a3 : Int32) (t0 : Int32) (t1 : Int32) (M : Mm) : BX9_countAnswers_37 N K4 a1 a3 t0 t1 M = (FX9_truth t1 M).bind fun r2 => K4 (a1, (t0 + r2), (a3 + 1)) := rfl
theorem eBX9_countAnswers_4 (N : Nat) (M : Mm) (K4 : Int32 × Int32 × Int32 → Option Int32) (q : Int32 × Int32 × Int32) : BX9_countAnswers_4 N M K4 q = (if (M.1 2 6) ≤ q.2.2 then some q.2.1 else (ckR 33 4 q.1).bind fun k2 => (rdI M k2 12 q.2.2).bind fun v4 => (if v4 = (-2000000000) then BX9_countAnswers_37 N K4 q.1 q.2.2 q.2.1 0 M else BX9_countAnswers_37 N K4 q.1 q.2.2 q.2.1 1 M)) := rfl
theorem eFX9_countAnswers (N : Nat) (x1 : Int32) (M : Mm) : FX9_countAnswers N x1 M = lp (BX9_countAnswers_4 N M) N (x1, 0, 0) := rfl
set_option maxRecDepth 20000 in
theorem tX9_countAnswers_37 {l : Launch} {G : va_G} {tc : Nat → ClassId} {D : Nat → Nat} {N : Nat} {K4 : Int32 × Int32 × Int32 → Option Int32} {a1 : Int32} {a3 : Int32} {t0 : Int32} {t1 : Int32} {M : Mm} {R : Int32} (hK4 : ∀ (z0 : Int32) (z1 : Int32) (z2 : Int32) (R : Int32), K4 (z0, z1, z2) = some R → WP l G tc D lay (fun _ => True) RX9 cX9_countAnswers 4 rX9_countAnswers (.code yX9_countAnswers cX9_countAnswers 4 (some .int)) 4 [some (.ref 0), some (.int z0), some (.int z1), some (.int z2)] [] M (RetQ cX9_countAnswers (some .int) (RQI R M))) (h : BX9_countAnswers_37 N K4 a1 a3 t0 t1 M = some R) : WP l G tc D lay (fun _ => True) RX9 cX9_countAnswers 4 rX9_countAnswers (.code yX9_countAnswers cX9_countAnswers 4 (some .int)) 37 [some (.ref 0), some (.int a1), none, some (.int a3)] [.int t1, .int t0] M (RetQ cX9_countAnswers (some .int) (RQI R M)) := by
  unfold BX9_countAnswers_37 at h
  obtain ⟨r2, h1, h⟩ := Option.bind_eq_some_iff.mp h
  refine WP.callSI [.int t1] dX9_countAnswers_37 lk_X9_155 rfl (Nat.le_of_ble_eq_true rfl) (by decide) (Nat.le_of_ble_eq_true rfl) rfl (TX9_truth h1) ?_
  refine WP.iadd dX9_countAnswers_40 ?_
  refine WP.istore_n dX9_countAnswers_41 rfl (by decide) rfl rfl ?_
  refine WP.iinc (v := (a3 + 1)) dX9_countAnswers_42 rfl rfl (by decide) rfl rfl ?_
  refine WP.goto (tgt := 4) dX9_countAnswers_45 (by decide) ?_
  refine WP.fgt [true, true, true, true] rfl ?_
  exact hK4 a1 (t0 + r2) (a3 + 1) _ h
set_option maxRecDepth 20000 in
theorem tX9_countAnswers_4 {l : Launch} {G : va_G} {tc : Nat → ClassId} {D : Nat → Nat} {N : Nat} {M : Mm} : ∀ (nn : Nat) (q : Int32 × Int32 × Int32) (R : Int32), lp (BX9_countAnswers_4 N M) nn q = some R → WP l G tc D lay (fun _ => True) RX9 cX9_countAnswers 4 rX9_countAnswers (.code yX9_countAnswers cX9_countAnswers 4 (some .int)) 4 [some (.ref 0), some (.int q.1), some (.int q.2.1), some (.int q.2.2)] [] M (RetQ cX9_countAnswers (some .int) (RQI R M)) := by
  refine lp_ind (fun K4 hK4q q R h => ?_)
  have hK4 : ∀ (z0 : Int32) (z1 : Int32) (z2 : Int32) (R : Int32), K4 (z0, z1, z2) = some R → WP l G tc D lay (fun _ => True) RX9 cX9_countAnswers 4 rX9_countAnswers (.code yX9_countAnswers cX9_countAnswers 4 (some .int)) 4 [some (.ref 0), some (.int z0), some (.int z1), some (.int z2)] [] M (RetQ cX9_countAnswers (some .int) (RQI R M)) := fun z0 z1 z2 R hh => hK4q (z0, z1, z2) R hh
  unfold BX9_countAnswers_4 at h
  refine WP.iload_n dX9_countAnswers_4 rfl rfl ?_
  refine WP.aload_n dX9_countAnswers_5 rfl rfl ?_
  refine WP.getR (j := 0) dX9_countAnswers_6 rfl rfl in_X9 (by decide) wd_311 rfl ?_
  refine WP.getR (j := 0) dX9_countAnswers_9 rfl rfl in_X2 (by decide) wd_161 rfl ?_
  refine WP.getI (j := 6) dX9_countAnswers_12 rfl rfl in_X0 (by decide) wd_109 rfl ?_
  refine WP.icmp_ge (tgt := 48) dX9_countAnswers_15 (by decide) (fun c1 => ?_) (fun c1 => ?_)
  · rw [if_pos c1] at h
    refine WP.iload_n dX9_countAnswers_48 rfl rfl ?_
    cases h
    exact WP.iret dX9_countAnswers_49 ⟨rfl, rfl⟩
  · rw [if_neg c1] at h
    refine WP.iload_n dX9_countAnswers_18 rfl rfl ?_
    refine WP.aload_n dX9_countAnswers_19 rfl rfl ?_
    refine WP.getR (j := 2) dX9_countAnswers_20 rfl rfl in_X9 (by decide) wd_313 rfl ?_
    refine WP.iload_n dX9_countAnswers_23 rfl rfl ?_
    obtain ⟨k2, h3, h⟩ := Option.bind_eq_some_iff.mp h
    refine WP.aaldQ (base := 33) (n := 4) dX9_countAnswers_24 rfl rfl h3 ?_
    have hk2 := rows_32 h3
    refine WP.iload_n dX9_countAnswers_25 rfl rfl ?_
    obtain ⟨v4, h5, h⟩ := Option.bind_eq_some_iff.mp h
    refine WP.ialdQ dX9_countAnswers_26 hk2 h5 ?_
    refine WP.ldc (v := (-2000000000)) dX9_countAnswers_27 wd_202 ?_
    refine WP.icmp_eq (tgt := 36) dX9_countAnswers_29 (by decide) (fun c6 => ?_) (fun c6 => ?_)
    · rw [if_pos c6] at h
      refine WP.iconst (v := 0) dX9_countAnswers_36 (by decide) ?_
      refine WP.fgt [true, true, false, true] rfl ?_
      exact tX9_countAnswers_37 hK4 h
    · rw [if_neg c6] at h
      refine WP.iconst (v := 1) dX9_countAnswers_32 (by decide) ?_
      refine WP.goto (tgt := 37) dX9_countAnswers_33 (by decide) ?_
      refine WP.fgt [true, true, false, true] rfl ?_
      exact tX9_countAnswers_37 hK4 h
theorem uX9_countAnswers_4 {l : Launch} {G : va_G} {tc : Nat → ClassId} {D : Nat → Nat} {N : Nat} {M : Mm} (nn : Nat) : ∀ (z0 : Int32) (z1 : Int32) (z2 : Int32) (R : Int32), lp (BX9_countAnswers_4 N M) nn (z0, z1, z2) = some R → WP l G tc D lay (fun _ => True) RX9 cX9_countAnswers 4 rX9_countAnswers (.code yX9_countAnswers cX9_countAnswers 4 (some .int)) 4 [some (.ref 0), some (.int z0), some (.int z1), some (.int z2)] [] M (RetQ cX9_countAnswers (some .int) (RQI R M)) := fun z0 z1 z2 R hh => tX9_countAnswers_4  nn (z0, z1, z2) R hh
set_option maxRecDepth 20000 in
theorem TX9_countAnswers {l : Launch} {G : va_G} {tc : Nat → ClassId} {D : Nat → Nat} {N : Nat} {x1 : Int32} {M : Mm} {R : Int32} (h : FX9_countAnswers N x1 M = some R) : WP l G tc D lay (fun _ => True) yX9_countAnswers.cls cX9_countAnswers 4 rX9_countAnswers (.code yX9_countAnswers cX9_countAnswers 4 (some .int)) 0 (entL 4 [.ref 0, .int x1]) [] M (RetQ cX9_countAnswers (some .int) (RQI R M)) := by
  show WP l G tc D lay (fun _ => True) RX9 cX9_countAnswers 4 rX9_countAnswers (.code yX9_countAnswers cX9_countAnswers 4 (some .int)) 0 [some (.ref 0), some (.int x1), none, none] [] M (RetQ cX9_countAnswers (some .int) (RQI R M))
  unfold FX9_countAnswers at h
  refine WP.iconst (v := 0) dX9_countAnswers_0 (by decide) ?_
  refine WP.istore_n dX9_countAnswers_1 rfl (by decide) rfl rfl ?_
  refine WP.iconst (v := 0) dX9_countAnswers_2 (by decide) ?_
  refine WP.istore_n dX9_countAnswers_3 rfl (by decide) rfl rfl ?_
  refine WP.fgt [true, true, true, true] rfl ?_
  exact uX9_countAnswers_4  N x1 0 0 _ h
/-! X9_told -/
def rX9_told : Room := { frames := 7, cells := 0, slots := 0, locals := 155 }
def FX9_told (N : Nat) (x1 : Int32) (M : Mm) : Option (Int32 × Mm) :=
  (if x1 = 0 then some ((M.1 2 6), M) else (if x1 = 1 then some ((M.1 21 5), M) else (if x1 = 2 then (FX0_askedBits N M).bind fun r5 => (FJ6_bitCount_0f7a4 r5 M).bind fun r7 => some (r7, M) else (if x1 = 3 then some ((M.1 43 5), M) else (if x1 = 4 then (FX9_countHolding N M).bind fun p11 => some (p11.1, p11.2) else (if x1 = 5 then some ((M.1 41 1), M) else (if x1 < 10 then some ((-2), M) else (FX9_hasDraft (x1 - 10) M).bind fun r15 => (if r15 = 0 then some ((-2), M) else (FX9_countAnswers N (x1 - 10) M).bind fun r18 => some (r18, M)))))))))
theorem eFX9_told (N : Nat) (x1 : Int32) (M : Mm) : FX9_told N x1 M = (if x1 = 0 then some ((M.1 2 6), M) else (if x1 = 1 then some ((M.1 21 5), M) else (if x1 = 2 then (FX0_askedBits N M).bind fun r5 => (FJ6_bitCount_0f7a4 r5 M).bind fun r7 => some (r7, M) else (if x1 = 3 then some ((M.1 43 5), M) else (if x1 = 4 then (FX9_countHolding N M).bind fun p11 => some (p11.1, p11.2) else (if x1 = 5 then some ((M.1 41 1), M) else (if x1 < 10 then some ((-2), M) else (FX9_hasDraft (x1 - 10) M).bind fun r15 => (if r15 = 0 then some ((-2), M) else (FX9_countAnswers N (x1 - 10) M).bind fun r18 => some (r18, M))))))))) := rfl
set_option maxRecDepth 20000 in
theorem TX9_told {l : Launch} {G : va_G} {tc : Nat → ClassId} {D : Nat → Nat} {N : Nat} {x1 : Int32} {M : Mm} {R : (Int32 × Mm)} (h : FX9_told N x1 M = some R) : WP l G tc D lay (fun _ => True) yX9_told.cls cX9_told 2 rX9_told (.code yX9_told cX9_told 2 (some .int)) 0 (entL 2 [.ref 0, .int x1]) [] M (RetQ cX9_told (some .int) (RQI R.1 R.2)) := by
  show WP l G tc D lay (fun _ => True) RX9 cX9_told 2 rX9_told (.code yX9_told cX9_told 2 (some .int)) 0 [some (.ref 0), some (.int x1)] [] M (RetQ cX9_told (some .int) (RQI R.1 R.2))
  unfold FX9_told at h
  refine WP.iload_n dX9_told_0 rfl rfl ?_
  by_cases c1 : x1 = 0
  · rw [if_pos c1] at h
    refine WP.tbl (off := 39) (tgt := 40) dX9_told_1 (by rw [c1]; decide) (by decide) ?_
    refine WP.aload_n dX9_told_40 rfl rfl ?_
    refine WP.getR (j := 0) dX9_told_41 rfl rfl in_X9 (by decide) wd_311 rfl ?_
    refine WP.getR (j := 0) dX9_told_44 rfl rfl in_X2 (by decide) wd_161 rfl ?_
    refine WP.getI (j := 6) dX9_told_47 rfl rfl in_X0 (by decide) wd_109 rfl ?_
    cases h
    exact WP.iret dX9_told_50 ⟨rfl, rfl⟩
  · rw [if_neg c1] at h
    by_cases c2 : x1 = 1
    · rw [if_pos c2] at h
      refine WP.tbl (off := 50) (tgt := 51) dX9_told_1 (by rw [c2]; decide) (by decide) ?_
      refine WP.aload_n dX9_told_51 rfl rfl ?_
      refine WP.getR (j := 0) dX9_told_52 rfl rfl in_X9 (by decide) wd_311 rfl ?_
      refine WP.getR (j := 1) dX9_told_55 rfl rfl in_X2 (by decide) wd_164 rfl ?_
      refine WP.getI (j := 5) dX9_told_58 rfl rfl in_X3 (by decide) wd_145 rfl ?_
      cases h
      exact WP.iret dX9_told_61 ⟨rfl, rfl⟩
    · rw [if_neg c2] at h
      by_cases c3 : x1 = 2
      · rw [if_pos c3] at h
        refine WP.tbl (off := 61) (tgt := 62) dX9_told_1 (by rw [c3]; decide) (by decide) ?_
        refine WP.aload_n dX9_told_62 rfl rfl ?_
        refine WP.getR (j := 0) dX9_told_63 rfl rfl in_X9 (by decide) wd_311 rfl ?_
        refine WP.getR (j := 0) dX9_told_66 rfl rfl in_X2 (by decide) wd_161 rfl ?_
        obtain ⟨r5, h4, h⟩ := Option.bind_eq_some_iff.mp h
        refine WP.callVI [] dX9_told_69 lk_X9_231 rfl rfl rfl (Nat.le_of_ble_eq_true rfl) (by decide) (Nat.le_of_ble_eq_true rfl) rfl (TX0_askedBits h4) ?_
        obtain ⟨r7, h6, h⟩ := Option.bind_eq_some_iff.mp h
        refine WP.callSI [.int r5] dX9_told_72 lk_X9_147 rfl (Nat.le_of_ble_eq_true rfl) (by decide) (Nat.le_of_ble_eq_true rfl) rfl (TJ6_bitCount_0f7a4 h6) ?_
        cases h
        exact WP.iret dX9_told_75 ⟨rfl, rfl⟩
      · rw [if_neg c3] at h
        by_cases c8 : x1 = 3
        · rw [if_pos c8] at h
          refine WP.tbl (off := 75) (tgt := 76) dX9_told_1 (by rw [c8]; decide) (by decide) ?_
          refine WP.aload_n dX9_told_76 rfl rfl ?_
          refine WP.getR (j := 5) dX9_told_77 rfl rfl in_X9 (by decide) wd_316 rfl ?_
          refine WP.getI (j := 5) dX9_told_80 rfl rfl in_X5 (by decide) wd_258 rfl ?_
          cases h
          exact WP.iret dX9_told_83 ⟨rfl, rfl⟩
        · rw [if_neg c8] at h
          by_cases c9 : x1 = 4
          · rw [if_pos c9] at h
            refine WP.tbl (off := 83) (tgt := 84) dX9_told_1 (by rw [c9]; decide) (by decide) ?_
            refine WP.aload_n dX9_told_84 rfl rfl ?_
            obtain ⟨p11, h10, h⟩ := Option.bind_eq_some_iff.mp h
            refine WP.callVI [] dX9_told_85 lk_X9_236 rfl rfl rfl (Nat.le_of_ble_eq_true rfl) (by decide) (Nat.le_of_ble_eq_true rfl) rfl (TX9_countHolding h10) ?_
            cases h
            exact WP.iret dX9_told_88 ⟨rfl, rfl⟩
          · rw [if_neg c9] at h
            by_cases c12 : x1 = 5
            · rw [if_pos c12] at h
              refine WP.tbl (off := 88) (tgt := 89) dX9_told_1 (by rw [c12]; decide) (by decide) ?_
              refine WP.aload_n dX9_told_89 rfl rfl ?_
              refine WP.getR (j := 4) dX9_told_90 rfl rfl in_X9 (by decide) wd_315 rfl ?_
              refine WP.getI (j := 1) dX9_told_93 rfl rfl in_X1 (by decide) wd_234 rfl ?_
              cases h
              exact WP.iret dX9_told_96 ⟨rfl, rfl⟩
            · rw [if_neg c12] at h
              refine WP.tbl (off := 96) (tgt := 97) dX9_told_1 (by
                  have n0 := lv_neT (k := 0) (a := 0) (fun z => c1 (z)) (by decide)
                  have n1 := lv_neT (k := 1) (a := 1) (fun z => c2 (z)) (by decide)
                  have n2 := lv_neT (k := 2) (a := 2) (fun z => c3 (z)) (by decide)
                  have n3 := lv_neT (k := 3) (a := 3) (fun z => c8 (z)) (by decide)
                  have n4 := lv_neT (k := 4) (a := 4) (fun z => c9 (z)) (by decide)
                  have n5 := lv_neT (k := 5) (a := 5) (fun z => c12 (z)) (by decide)
                  exact swT_def (by omega)) (by decide) ?_
              refine WP.iload_n dX9_told_97 rfl rfl ?_
              refine WP.bipush (v := 10) dX9_told_98 (by decide) ?_
              refine WP.icmp_lt (tgt := 125) dX9_told_100 (by decide) (fun c13 => ?_) (fun c13 => ?_)
              · rw [if_pos c13] at h
                refine WP.bipush (v := (-2)) dX9_told_125 (by decide) ?_
                cases h
                exact WP.iret dX9_told_127 ⟨rfl, rfl⟩
              · rw [if_neg c13] at h
                refine WP.aload_n dX9_told_103 rfl rfl ?_
                refine WP.iload_n dX9_told_104 rfl rfl ?_
                refine WP.bipush (v := 10) dX9_told_105 (by decide) ?_
                refine WP.isub dX9_told_107 ?_
                obtain ⟨r15, h14, h⟩ := Option.bind_eq_some_iff.mp h
                refine WP.callVI [.int (x1 - 10)] dX9_told_108 lk_X9_182 rfl rfl rfl (Nat.le_of_ble_eq_true rfl) (by decide) (Nat.le_of_ble_eq_true rfl) rfl (TX9_hasDraft h14) ?_
                refine WP.if_eq (tgt := 125) dX9_told_111 (by decide) (fun c16 => ?_) (fun c16 => ?_)
                · rw [if_pos c16] at h
                  refine WP.bipush (v := (-2)) dX9_told_125 (by decide) ?_
                  cases h
                  exact WP.iret dX9_told_127 ⟨rfl, rfl⟩
                · rw [if_neg c16] at h
                  refine WP.aload_n dX9_told_114 rfl rfl ?_
                  refine WP.iload_n dX9_told_115 rfl rfl ?_
                  refine WP.bipush (v := 10) dX9_told_116 (by decide) ?_
                  refine WP.isub dX9_told_118 ?_
                  obtain ⟨r18, h17, h⟩ := Option.bind_eq_some_iff.mp h
                  refine WP.callVI [.int (x1 - 10)] dX9_told_119 lk_X9_239 rfl rfl rfl (Nat.le_of_ble_eq_true rfl) (by decide) (Nat.le_of_ble_eq_true rfl) rfl (TX9_countAnswers h17) ?_
                  refine WP.goto (tgt := 127) dX9_told_122 (by decide) ?_
                  cases h
                  exact WP.iret dX9_told_127 ⟨rfl, rfl⟩
/-! X9_tell -/
def rX9_tell : Room := { frames := 6, cells := 0, slots := 0, locals := 131 }
def FX9_tell (x1 : Int32) (M : Mm) : Option (Int32 × Mm) :=
  (FX0_has x1 M).bind fun r2 => (if r2 = 0 then some ((-1), M) else (FX7_tellOne x1 M).bind fun p5 => some (p5.1, p5.2))
theorem eFX9_tell (x1 : Int32) (M : Mm) : FX9_tell x1 M = (FX0_has x1 M).bind fun r2 => (if r2 = 0 then some ((-1), M) else (FX7_tellOne x1 M).bind fun p5 => some (p5.1, p5.2)) := rfl
set_option maxRecDepth 20000 in
theorem TX9_tell {l : Launch} {G : va_G} {tc : Nat → ClassId} {D : Nat → Nat} {x1 : Int32} {M : Mm} {R : (Int32 × Mm)} (h : FX9_tell x1 M = some R) : WP l G tc D lay (fun _ => True) yX9_tell.cls cX9_tell 2 rX9_tell (.code yX9_tell cX9_tell 2 (some .int)) 0 (entL 2 [.ref 0, .int x1]) [] M (RetQ cX9_tell (some .int) (RQI R.1 R.2)) := by
  show WP l G tc D lay (fun _ => True) RX9 cX9_tell 2 rX9_tell (.code yX9_tell cX9_tell 2 (some .int)) 0 [some (.ref 0), some (.int x1)] [] M (RetQ cX9_tell (some .int) (RQI R.1 R.2))
  unfold FX9_tell at h
  refine WP.aload_n dX9_tell_0 rfl rfl ?_
  refine WP.getR (j := 0) dX9_tell_1 rfl rfl in_X9 (by decide) wd_311 rfl ?_
  refine WP.getR (j := 0) dX9_tell_4 rfl rfl in_X2 (by decide) wd_161 rfl ?_
  refine WP.iload_n dX9_tell_7 rfl rfl ?_
  obtain ⟨r2, h1, h⟩ := Option.bind_eq_some_iff.mp h
  refine WP.callVI [.int x1] dX9_tell_8 lk_X9_98 rfl rfl rfl (Nat.le_of_ble_eq_true rfl) (by decide) (Nat.le_of_ble_eq_true rfl) rfl (TX0_has h1) ?_
  refine WP.if_eq (tgt := 32) dX9_tell_11 (by decide) (fun c3 => ?_) (fun c3 => ?_)
  · rw [if_pos c3] at h
    refine WP.iconst (v := (-1)) dX9_tell_32 (by decide) ?_
    cases h
    exact WP.iret dX9_tell_33 ⟨rfl, rfl⟩
  · rw [if_neg c3] at h
    refine WP.aload_n dX9_tell_14 rfl rfl ?_
    refine WP.getR (j := 7) dX9_tell_15 rfl rfl in_X9 (by decide) wd_318 rfl ?_
    refine WP.aload_n dX9_tell_18 rfl rfl ?_
    refine WP.getR (j := 0) dX9_tell_19 rfl rfl in_X9 (by decide) wd_311 rfl ?_
    refine WP.getR (j := 0) dX9_tell_22 rfl rfl in_X2 (by decide) wd_161 rfl ?_
    refine WP.iload_n dX9_tell_25 rfl rfl ?_
    obtain ⟨p5, h4, h⟩ := Option.bind_eq_some_iff.mp h
    refine WP.callVI [.ref 2, .int x1] dX9_tell_26 lk_X9_242 rfl rfl rfl (Nat.le_of_ble_eq_true rfl) (by decide) (Nat.le_of_ble_eq_true rfl) rfl (TX7_tellOne h4) ?_
    refine WP.goto (tgt := 33) dX9_tell_29 (by decide) ?_
    cases h
    exact WP.iret dX9_tell_33 ⟨rfl, rfl⟩
/-! X9_address -/
def rX9_address : Room := { frames := 3, cells := 0, slots := 0, locals := 64 }
def FX9_address (x1 : Int32) (M : Mm) : Option (Int32 × Mm) :=
  (FX0_has x1 M).bind fun r2 => (if r2 = 0 then some ((-1), M) else (FX7_addressOne x1 M).bind fun p5 => some (p5.1, p5.2))
theorem eFX9_address (x1 : Int32) (M : Mm) : FX9_address x1 M = (FX0_has x1 M).bind fun r2 => (if r2 = 0 then some ((-1), M) else (FX7_addressOne x1 M).bind fun p5 => some (p5.1, p5.2)) := rfl
set_option maxRecDepth 20000 in
theorem TX9_address {l : Launch} {G : va_G} {tc : Nat → ClassId} {D : Nat → Nat} {x1 : Int32} {M : Mm} {R : (Int32 × Mm)} (h : FX9_address x1 M = some R) : WP l G tc D lay (fun _ => True) yX9_address.cls cX9_address 2 rX9_address (.code yX9_address cX9_address 2 (some .int)) 0 (entL 2 [.ref 0, .int x1]) [] M (RetQ cX9_address (some .int) (RQI R.1 R.2)) := by
  show WP l G tc D lay (fun _ => True) RX9 cX9_address 2 rX9_address (.code yX9_address cX9_address 2 (some .int)) 0 [some (.ref 0), some (.int x1)] [] M (RetQ cX9_address (some .int) (RQI R.1 R.2))
  unfold FX9_address at h
  refine WP.aload_n dX9_address_0 rfl rfl ?_
  refine WP.getR (j := 0) dX9_address_1 rfl rfl in_X9 (by decide) wd_311 rfl ?_
  refine WP.getR (j := 0) dX9_address_4 rfl rfl in_X2 (by decide) wd_161 rfl ?_
  refine WP.iload_n dX9_address_7 rfl rfl ?_
  obtain ⟨r2, h1, h⟩ := Option.bind_eq_some_iff.mp h
  refine WP.callVI [.int x1] dX9_address_8 lk_X9_98 rfl rfl rfl (Nat.le_of_ble_eq_true rfl) (by decide) (Nat.le_of_ble_eq_true rfl) rfl (TX0_has h1) ?_
  refine WP.if_eq (tgt := 32) dX9_address_11 (by decide) (fun c3 => ?_) (fun c3 => ?_)
  · rw [if_pos c3] at h
    refine WP.iconst (v := (-1)) dX9_address_32 (by decide) ?_
    cases h
    exact WP.iret dX9_address_33 ⟨rfl, rfl⟩
  · rw [if_neg c3] at h
    refine WP.aload_n dX9_address_14 rfl rfl ?_
    refine WP.getR (j := 7) dX9_address_15 rfl rfl in_X9 (by decide) wd_318 rfl ?_
    refine WP.aload_n dX9_address_18 rfl rfl ?_
    refine WP.getR (j := 0) dX9_address_19 rfl rfl in_X9 (by decide) wd_311 rfl ?_
    refine WP.getR (j := 0) dX9_address_22 rfl rfl in_X2 (by decide) wd_161 rfl ?_
    refine WP.iload_n dX9_address_25 rfl rfl ?_
    obtain ⟨p5, h4, h⟩ := Option.bind_eq_some_iff.mp h
    refine WP.callVI [.ref 2, .int x1] dX9_address_26 lk_X9_245 rfl rfl rfl (Nat.le_of_ble_eq_true rfl) (by decide) (Nat.le_of_ble_eq_true rfl) rfl (TX7_addressOne h4) ?_
    refine WP.goto (tgt := 33) dX9_address_29 (by decide) ?_
    cases h
    exact WP.iret dX9_address_33 ⟨rfl, rfl⟩
/-! X9_trace -/
def rX9_trace : Room := { frames := 0, cells := 0, slots := 0, locals := 0 }
def FX9_trace (M : Mm) : Option Int32 :=
  some (M.1 68 0)
theorem eFX9_trace (M : Mm) : FX9_trace M = some (M.1 68 0) := rfl
set_option maxRecDepth 20000 in
theorem TX9_trace {l : Launch} {G : va_G} {tc : Nat → ClassId} {D : Nat → Nat} {M : Mm} {R : Int32} (h : FX9_trace M = some R) : WP l G tc D lay (fun _ => True) yX9_trace.cls cX9_trace 1 rX9_trace (.code yX9_trace cX9_trace 1 (some .int)) 0 (entL 1 [.ref 0]) [] M (RetQ cX9_trace (some .int) (RQI R M)) := by
  show WP l G tc D lay (fun _ => True) RX9 cX9_trace 1 rX9_trace (.code yX9_trace cX9_trace 1 (some .int)) 0 [some (.ref 0)] [] M (RetQ cX9_trace (some .int) (RQI R M))
  unfold FX9_trace at h
  refine WP.aload_n dX9_trace_0 rfl rfl ?_
  refine WP.getR (j := 7) dX9_trace_1 rfl rfl in_X9 (by decide) wd_318 rfl ?_
  refine WP.getI (j := 0) dX9_trace_4 rfl rfl in_X7 (by decide) wd_307 rfl ?_
  cases h
  exact WP.iret dX9_trace_7 ⟨rfl, rfl⟩
