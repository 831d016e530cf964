def BX10_init_214 (N : Nat) (K214 : Int32 × Mm → Option Mm) (q : Int32 × Mm) : Option Mm :=
  (if 48 ≤ q.1 then (wrF q.2 0 10 0).bind fun M2 => some M2 else (wrI q.2 19 48 q.1 (-2000000000)).bind fun M4 => (wrI M4 26 12 (q.1 - q.1 / 12 * 12) (-2000000000)).bind fun M6 => (wrI M6 14 12 (q.1 - q.1 / 12 * 12) (-2000000000)).bind fun M8 => K214 ((q.1 + 1), M8))
def FX10_init (N : Nat) (M : Mm) : Option Mm :=
  lp (BX10_init_214 N) N (0, M)
theorem eBX10_init_214 (N : Nat) (K214 : Int32 × Mm → Option Mm) (q : Int32 × Mm) : BX10_init_214 N K214 q = (if 48 ≤ q.1 then (wrF q.2 0 10 0).bind fun M2 => some M2 else (wrI q.2 19 48 q.1 (-2000000000)).bind fun M4 => (wrI M4 26 12 (q.1 - q.1 / 12 * 12) (-2000000000)).bind fun M6 => (wrI M6 14 12 (q.1 - q.1 / 12 * 12) (-2000000000)).bind fun M8 => K214 ((q.1 + 1), M8)) := rfl
theorem eFX10_init (N : Nat) (M : Mm) : FX10_init N M = lp (BX10_init_214 N) N (0, M) := rfl
set_option maxRecDepth 20000 in
theorem tX10_init_214 {l : Launch} {G : va_G} {tc : Nat → ClassId} {D : Nat → Nat} {N : Nat} : ∀ (nn : Nat) (q : Int32 × Mm) (R : Mm), lp (BX10_init_214 N) nn q = some R → WP l G tc D lay_X10 (fun _ => True) RX10 cX10_init 2 rX10_init (.code yX10_init cX10_init 2 none) 214 [some (.ref 0), some (.int q.1)] [] q.2 (RetQ cX10_init none (RQV R)) := by
  refine lp_ind (fun K214 hK214q q R h => ?_)
  have hK214 : ∀ (z0 : Int32) (z1 : Mm) (R : Mm), K214 (z0, z1) = some R → WP l G tc D lay_X10 (fun _ => True) RX10 cX10_init 2 rX10_init (.code yX10_init cX10_init 2 none) 214 [some (.ref 0), some (.int z0)] [] z1 (RetQ cX10_init none (RQV R)) := fun z0 z1 R hh => hK214q (z0, z1) R hh
  unfold BX10_init_214 at h
  refine WP.iload_n dX10_init_214 rfl rfl ?_
  refine WP.bipush (v := 48) dX10_init_215 (by decide) ?_
  refine WP.icmp_ge (tgt := 256) dX10_init_217 (by decide) (fun c1 => ?_) (fun c1 => ?_)
  · rw [if_pos c1] at h
    refine WP.aload_n dX10_init_256 rfl rfl ?_
    refine WP.iconst (v := 0) dX10_init_257 (by decide) ?_
    obtain ⟨M2, h3, h⟩ := Option.bind_eq_some_iff.mp h
    refine WP.putF (j := 10) (ty := .boolean) dX10_init_258 rfl rfl in_X10 tyX10_ok nmX10 (by decide) wd_702 rfl (by decide +kernel) (by decide) (by decide) rfl h3 ?_
    cases h
    exact WP.vret dX10_init_261 ⟨rfl, rfl⟩
  · rw [if_neg c1] at h
    refine WP.aload_n dX10_init_220 rfl rfl ?_
    refine WP.getR (j := 22) dX10_init_221 rfl rfl in_X10 (by decide) wd_714 rfl ?_
    refine WP.iload_n dX10_init_224 rfl rfl ?_
    refine WP.ldc (v := (-2000000000)) dX10_init_225 wd_691 ?_
    obtain ⟨M4, h5, h⟩ := Option.bind_eq_some_iff.mp h
    refine WP.iastQ dX10_init_227 rfl h5 ?_
    refine WP.aload_n dX10_init_228 rfl rfl ?_
    refine WP.getR (j := 32) dX10_init_229 rfl rfl in_X10 (by decide) wd_724 rfl ?_
    refine WP.iload_n dX10_init_232 rfl rfl ?_
    refine WP.bipush (v := 12) dX10_init_233 (by decide) ?_
    refine WP.irem dX10_init_235 (by decide) ?_
    refine WP.ldc (v := (-2000000000)) dX10_init_236 wd_691 ?_
    obtain ⟨M6, h7, h⟩ := Option.bind_eq_some_iff.mp h
    refine WP.iastQ dX10_init_238 rfl h7 ?_
    refine WP.aload_n dX10_init_239 rfl rfl ?_
    refine WP.getR (j := 17) dX10_init_240 rfl rfl in_X10 (by decide) wd_709 rfl ?_
    refine WP.iload_n dX10_init_243 rfl rfl ?_
    refine WP.bipush (v := 12) dX10_init_244 (by decide) ?_
    refine WP.irem dX10_init_246 (by decide) ?_
    refine WP.ldc (v := (-2000000000)) dX10_init_247 wd_691 ?_
    obtain ⟨M8, h9, h⟩ := Option.bind_eq_some_iff.mp h
    refine WP.iastQ dX10_init_249 rfl h9 ?_
    refine WP.iinc (v := (q.1 + 1)) dX10_init_250 rfl rfl (by decide) rfl rfl ?_
    refine WP.goto (tgt := 214) dX10_init_253 (by decide) ?_
    refine WP.fgt [true, true] rfl ?_
    exact hK214 (q.1 + 1) M8 _ h
theorem uX10_init_214 {l : Launch} {G : va_G} {tc : Nat → ClassId} {D : Nat → Nat} {N : Nat} (nn : Nat) : ∀ (z0 : Int32) (z1 : Mm) (R : Mm), lp (BX10_init_214 N) nn (z0, z1) = some R → WP l G tc D lay_X10 (fun _ => True) RX10 cX10_init 2 rX10_init (.code yX10_init cX10_init 2 none) 214 [some (.ref 0), some (.int z0)] [] z1 (RetQ cX10_init none (RQV R)) := fun z0 z1 R hh => tX10_init_214  nn (z0, z1) R hh
set_option maxRecDepth 20000 in
theorem TX10_init {l : Launch} {G : va_G} {tc : Nat → ClassId} {D : Nat → Nat} {N : Nat} {M : Mm} {R : Mm} (h : FX10_init N M = some R) : WP l G tc D lay_X10 (fun _ => True) RX10 cX10_init 2 rX10_init (.code yX10_init cX10_init 2 none) 212 [some (.ref 0), none] [] M (RetQ cX10_init none (RQV R)) := by
  unfold FX10_init at h
  refine WP.iconst (v := 0) dX10_init_212 (by decide) ?_
  refine WP.istore_n dX10_init_213 rfl (by decide) rfl rfl ?_
  refine WP.fgt [true, true] rfl ?_
  exact uX10_init_214  N 0 M _ h
set_option maxRecDepth 100000 in
set_option maxHeartbeats 4000000 in
theorem inK_X10 (l : Launch) (G : va_G) (tc : Nat → ClassId) {N : Nat} {M1 : Mm} (hrun : FX10_init N ((fun _ _ => 0, fun _ _ => 0) : Mm) = some M1) : InK l G tc yX10_init cX10_init 2 rX10_init 27 26 676 (.inr (10, [.int 0, .null, .null, .null, .null, .int 0, .null, .null, .null, .null, .int 0, .null, .null, .null, .null, .int 0, .null, .null, .null, .null, .null, .null, .null, .int 0, .null, .int 0, .null, .null, .null, .null, .null, .int 0, .null, .int 0])) (fun B es' => es' = esOf tc (fun k => B + k) M1 0 lay_X10) := by
  refine ink_of (by decide) rfl (by decide) (by decide) (fun B => ?_)
  show KP l G tc B 27 true RX10 cX10_init 2 rX10_init (.code yX10_init cX10_init 2 none) 0 [some (.ref B), none] [] [.inr (10, [.int 0, .null, .null, .null, .null, .int 0, .null, .null, .null, .null, .int 0, .null, .null, .null, .null, .int 0, .null, .null, .null, .null, .null, .null, .null, .int 0, .null, .int 0, .null, .null, .null, .null, .null, .int 0, .null, .int 0])] 0 0 (EndK cX10_init B (fun B es' => es' = esOf tc (fun k => B + k) M1 0 lay_X10) 26 676)
  have hr0 : ([] : List va_E).length = 0 := rfl
  refine KP.aload_n dX10_init_0 rfl rfl ?_
  refine KP.obj dX10_init_1 wk_690 wk_65 wk_66 (by decide) (by decide) ?_
  refine KP.aload_n dX10_init_4 rfl rfl ?_
  refine KP.bipush (v := 12) dX10_init_5 (by decide) ?_
  refine KP.newa (ty := .int) (t := 0) (n := 12) (a0 := (12, .inl (fun _ => 0))) (q := B + 1) dX10_init_7 rfl rfl (fun _ h => by cases h) wk_125 (fun _ => rfl) (by decide) (by decide) (by decide) (show B + (([] : List va_E).length + 1) = B + 1 by rw [hr0]) (show ([] : List va_E).length + 1 + 1 ≤ 27 by rw [hr0]; decide) (by decide) (by decide) ?_
  refine KP.abs (m := 0) (m' := 1) hr0 rfl (fun r1 er1 hr1 => ?_)
  refine KP.putF (x := 0) (j := 1) (ty := .array .int) dX10_init_9 rfl rfl rfl rfl in_X10 tyX10_ok nmX10 (by decide) wk_693 rfl rfl (by decide +kernel) rfl rfl (Nat.le_of_ble_eq_true rfl) ?_
  refine KP.re (es' := .inr (10, [.int 0, .ref (B + 1), .null, .null, .null, .int 0, .null, .null, .null, .null, .int 0, .null, .null, .null, .null, .int 0, .null, .null, .null, .null, .null, .null, .null, .int 0, .null, .int 0, .null, .null, .null, .null, .null, .int 0, .null, .int 0]) :: r1) rfl ?_
  refine KP.aload_n dX10_init_12 rfl rfl ?_
  refine KP.bipush (v := 12) dX10_init_13 (by decide) ?_
  refine KP.newa (ty := .int) (t := 0) (n := 12) (a0 := (12, .inl (fun _ => 0))) (q := B + 2) dX10_init_15 rfl rfl (fun _ h => by cases h) wk_125 (fun _ => rfl) (by decide) (by decide) (by decide) (show B + (r1.length + 1) = B + 2 by rw [hr1]) (show r1.length + 1 + 1 ≤ 27 by rw [hr1]; decide) (by decide) (by decide) ?_
  refine KP.abs (m := 1) (m' := 2) hr1 rfl (fun r2 er2 hr2 => ?_)
  refine KP.putF (x := 0) (j := 2) (ty := .array .int) dX10_init_17 rfl rfl rfl rfl in_X10 tyX10_ok nmX10 (by decide) wk_694 rfl rfl (by decide +kernel) rfl rfl (Nat.le_of_ble_eq_true rfl) ?_
  refine KP.re (es' := .inr (10, [.int 0, .ref (B + 1), .ref (B + 2), .null, .null, .int 0, .null, .null, .null, .null, .int 0, .null, .null, .null, .null, .int 0, .null, .null, .null, .null, .null, .null, .null, .int 0, .null, .int 0, .null, .null, .null, .null, .null, .int 0, .null, .int 0]) :: r2) rfl ?_
  refine KP.aload_n dX10_init_20 rfl rfl ?_
  refine KP.bipush (v := 12) dX10_init_21 (by decide) ?_
  refine KP.newa (ty := .int) (t := 0) (n := 12) (a0 := (12, .inl (fun _ => 0))) (q := B + 3) dX10_init_23 rfl rfl (fun _ h => by cases h) wk_125 (fun _ => rfl) (by decide) (by decide) (by decide) (show B + (r2.length + 1) = B + 3 by rw [hr2]) (show r2.length + 1 + 1 ≤ 27 by rw [hr2]; decide) (by decide) (by decide) ?_
  refine KP.abs (m := 2) (m' := 3) hr2 rfl (fun r3 er3 hr3 => ?_)
  refine KP.putF (x := 0) (j := 3) (ty := .array .int) dX10_init_25 rfl rfl rfl rfl in_X10 tyX10_ok nmX10 (by decide) wk_695 rfl rfl (by decide +kernel) rfl rfl (Nat.le_of_ble_eq_true rfl) ?_
  refine KP.re (es' := .inr (10, [.int 0, .ref (B + 1), .ref (B + 2), .ref (B + 3), .null, .int 0, .null, .null, .null, .null, .int 0, .null, .null, .null, .null, .int 0, .null, .null, .null, .null, .null, .null, .null, .int 0, .null, .int 0, .null, .null, .null, .null, .null, .int 0, .null, .int 0]) :: r3) rfl ?_
  refine KP.aload_n dX10_init_28 rfl rfl ?_
  refine KP.bipush (v := 48) dX10_init_29 (by decide) ?_
  refine KP.newa (ty := .int) (t := 0) (n := 48) (a0 := (48, .inl (fun _ => 0))) (q := B + 4) dX10_init_31 rfl rfl (fun _ h => by cases h) wk_125 (fun _ => rfl) (by decide) (by decide) (by decide) (show B + (r3.length + 1) = B + 4 by rw [hr3]) (show r3.length + 1 + 1 ≤ 27 by rw [hr3]; decide) (by decide) (by decide) ?_
  refine KP.abs (m := 3) (m' := 4) hr3 rfl (fun r4 er4 hr4 => ?_)
  refine KP.putF (x := 0) (j := 4) (ty := .array .int) dX10_init_33 rfl rfl rfl rfl in_X10 tyX10_ok nmX10 (by decide) wk_696 rfl rfl (by decide +kernel) rfl rfl (Nat.le_of_ble_eq_true rfl) ?_
  refine KP.re (es' := .inr (10, [.int 0, .ref (B + 1), .ref (B + 2), .ref (B + 3), .ref (B + 4), .int 0, .null, .null, .null, .null, .int 0, .null, .null, .null, .null, .int 0, .null, .null, .null, .null, .null, .null, .null, .int 0, .null, .int 0, .null, .null, .null, .null, .null, .int 0, .null, .int 0]) :: r4) rfl ?_
  refine KP.aload_n dX10_init_36 rfl rfl ?_
  refine KP.bipush (v := 50) dX10_init_37 (by decide) ?_
  refine KP.newa (ty := .int) (t := 0) (n := 50) (a0 := (50, .inl (fun _ => 0))) (q := B + 5) dX10_init_39 rfl rfl (fun _ h => by cases h) wk_125 (fun _ => rfl) (by decide) (by decide) (by decide) (show B + (r4.length + 1) = B + 5 by rw [hr4]) (show r4.length + 1 + 1 ≤ 27 by rw [hr4]; decide) (by decide) (by decide) ?_
  refine KP.abs (m := 4) (m' := 5) hr4 rfl (fun r5 er5 hr5 => ?_)
  refine KP.putF (x := 0) (j := 6) (ty := .array .int) dX10_init_41 rfl rfl rfl rfl in_X10 tyX10_ok nmX10 (by decide) wk_698 rfl rfl (by decide +kernel) rfl rfl (Nat.le_of_ble_eq_true rfl) ?_
  refine KP.re (es' := .inr (10, [.int 0, .ref (B + 1), .ref (B + 2), .ref (B + 3), .ref (B + 4), .int 0, .ref (B + 5), .null, .null, .null, .int 0, .null, .null, .null, .null, .int 0, .null, .null, .null, .null, .null, .null, .null, .int 0, .null, .int 0, .null, .null, .null, .null, .null, .int 0, .null, .int 0]) :: r5) rfl ?_
  refine KP.aload_n dX10_init_44 rfl rfl ?_
  refine KP.bipush (v := 50) dX10_init_45 (by decide) ?_
  refine KP.newa (ty := .int) (t := 0) (n := 50) (a0 := (50, .inl (fun _ => 0))) (q := B + 6) dX10_init_47 rfl rfl (fun _ h => by cases h) wk_125 (fun _ => rfl) (by decide) (by decide) (by decide) (show B + (r5.length + 1) = B + 6 by rw [hr5]) (show r5.length + 1 + 1 ≤ 27 by rw [hr5]; decide) (by decide) (by decide) ?_
  refine KP.abs (m := 5) (m' := 6) hr5 rfl (fun r6 er6 hr6 => ?_)
  refine KP.putF (x := 0) (j := 7) (ty := .array .int) dX10_init_49 rfl rfl rfl rfl in_X10 tyX10_ok nmX10 (by decide) wk_699 rfl rfl (by decide +kernel) rfl rfl (Nat.le_of_ble_eq_true rfl) ?_
  refine KP.re (es' := .inr (10, [.int 0, .ref (B + 1), .ref (B + 2), .ref (B + 3), .ref (B + 4), .int 0, .ref (B + 5), .ref (B + 6), .null, .null, .int 0, .null, .null, .null, .null, .int 0, .null, .null, .null, .null, .null, .null, .null, .int 0, .null, .int 0, .null, .null, .null, .null, .null, .int 0, .null, .int 0]) :: r6) rfl ?_
  refine KP.aload_n dX10_init_52 rfl rfl ?_
  refine KP.bipush (v := 50) dX10_init_53 (by decide) ?_
  refine KP.newa (ty := .int) (t := 0) (n := 50) (a0 := (50, .inl (fun _ => 0))) (q := B + 7) dX10_init_55 rfl rfl (fun _ h => by cases h) wk_125 (fun _ => rfl) (by decide) (by decide) (by decide) (show B + (r6.length + 1) = B + 7 by rw [hr6]) (show r6.length + 1 + 1 ≤ 27 by rw [hr6]; decide) (by decide) (by decide) ?_
  refine KP.abs (m := 6) (m' := 7) hr6 rfl (fun r7 er7 hr7 => ?_)
  refine KP.putF (x := 0) (j := 8) (ty := .array .int) dX10_init_57 rfl rfl rfl rfl in_X10 tyX10_ok nmX10 (by decide) wk_700 rfl rfl (by decide +kernel) rfl rfl (Nat.le_of_ble_eq_true rfl) ?_
  refine KP.re (es' := .inr (10, [.int 0, .ref (B + 1), .ref (B + 2), .ref (B + 3), .ref (B + 4), .int 0, .ref (B + 5), .ref (B + 6), .ref (B + 7), .null, .int 0, .null, .null, .null, .null, .int 0, .null, .null, .null, .null, .null, .null, .null, .int 0, .null, .int 0, .null, .null, .null, .null, .null, .int 0, .null, .int 0]) :: r7) rfl ?_
  refine KP.aload_n dX10_init_60 rfl rfl ?_
  refine KP.bipush (v := 50) dX10_init_61 (by decide) ?_
  refine KP.newa (ty := .int) (t := 0) (n := 50) (a0 := (50, .inl (fun _ => 0))) (q := B + 8) dX10_init_63 rfl rfl (fun _ h => by cases h) wk_125 (fun _ => rfl) (by decide) (by decide) (by decide) (show B + (r7.length + 1) = B + 8 by rw [hr7]) (show r7.length + 1 + 1 ≤ 27 by rw [hr7]; decide) (by decide) (by decide) ?_
  refine KP.abs (m := 7) (m' := 8) hr7 rfl (fun r8 er8 hr8 => ?_)
  refine KP.putF (x := 0) (j := 9) (ty := .array .int) dX10_init_65 rfl rfl rfl rfl in_X10 tyX10_ok nmX10 (by decide) wk_701 rfl rfl (by decide +kernel) rfl rfl (Nat.le_of_ble_eq_true rfl) ?_
  refine KP.re (es' := .inr (10, [.int 0, .ref (B + 1), .ref (B + 2), .ref (B + 3), .ref (B + 4), .int 0, .ref (B + 5), .ref (B + 6), .ref (B + 7), .ref (B + 8), .int 0, .null, .null, .null, .null, .int 0, .null, .null, .null, .null, .null, .null, .null, .int 0, .null, .int 0, .null, .null, .null, .null, .null, .int 0, .null, .int 0]) :: r8) rfl ?_
  refine KP.aload_n dX10_init_68 rfl rfl ?_
  refine KP.bipush (v := 12) dX10_init_69 (by decide) ?_
  refine KP.newa (ty := .int) (t := 0) (n := 12) (a0 := (12, .inl (fun _ => 0))) (q := B + 9) dX10_init_71 rfl rfl (fun _ h => by cases h) wk_125 (fun _ => rfl) (by decide) (by decide) (by decide) (show B + (r8.length + 1) = B + 9 by rw [hr8]) (show r8.length + 1 + 1 ≤ 27 by rw [hr8]; decide) (by decide) (by decide) ?_
  refine KP.abs (m := 8) (m' := 9) hr8 rfl (fun r9 er9 hr9 => ?_)
  refine KP.putF (x := 0) (j := 11) (ty := .array .int) dX10_init_73 rfl rfl rfl rfl in_X10 tyX10_ok nmX10 (by decide) wk_703 rfl rfl (by decide +kernel) rfl rfl (Nat.le_of_ble_eq_true rfl) ?_
  refine KP.re (es' := .inr (10, [.int 0, .ref (B + 1), .ref (B + 2), .ref (B + 3), .ref (B + 4), .int 0, .ref (B + 5), .ref (B + 6), .ref (B + 7), .ref (B + 8), .int 0, .ref (B + 9), .null, .null, .null, .int 0, .null, .null, .null, .null, .null, .null, .null, .int 0, .null, .int 0, .null, .null, .null, .null, .null, .int 0, .null, .int 0]) :: r9) rfl ?_
  refine KP.aload_n dX10_init_76 rfl rfl ?_
  refine KP.bipush (v := 12) dX10_init_77 (by decide) ?_
  refine KP.newa (ty := .int) (t := 0) (n := 12) (a0 := (12, .inl (fun _ => 0))) (q := B + 10) dX10_init_79 rfl rfl (fun _ h => by cases h) wk_125 (fun _ => rfl) (by decide) (by decide) (by decide) (show B + (r9.length + 1) = B + 10 by rw [hr9]) (show r9.length + 1 + 1 ≤ 27 by rw [hr9]; decide) (by decide) (by decide) ?_
  refine KP.abs (m := 9) (m' := 10) hr9 rfl (fun r10 er10 hr10 => ?_)
  refine KP.putF (x := 0) (j := 12) (ty := .array .int) dX10_init_81 rfl rfl rfl rfl in_X10 tyX10_ok nmX10 (by decide) wk_704 rfl rfl (by decide +kernel) rfl rfl (Nat.le_of_ble_eq_true rfl) ?_
  refine KP.re (es' := .inr (10, [.int 0, .ref (B + 1), .ref (B + 2), .ref (B + 3), .ref (B + 4), .int 0, .ref (B + 5), .ref (B + 6), .ref (B + 7), .ref (B + 8), .int 0, .ref (B + 9), .ref (B + 10), .null, .null, .int 0, .null, .null, .null, .null, .null, .null, .null, .int 0, .null, .int 0, .null, .null, .null, .null, .null, .int 0, .null, .int 0]) :: r10) rfl ?_
  refine KP.aload_n dX10_init_84 rfl rfl ?_
  refine KP.bipush (v := 12) dX10_init_85 (by decide) ?_
  refine KP.newa (ty := .long) (t := 2) (n := 12) (a0 := (12, .inr (.inl (fun _ => 0)))) (q := B + 11) dX10_init_87 rfl rfl (fun _ h => by cases h) wk_795 (fun _ => rfl) (by decide) (by decide) (by decide) (show B + (r10.length + 1) = B + 11 by rw [hr10]) (show r10.length + 1 + 1 ≤ 27 by rw [hr10]; decide) (by decide) (by decide) ?_
  refine KP.abs (m := 10) (m' := 11) hr10 rfl (fun r11 er11 hr11 => ?_)
  refine KP.putF (x := 0) (j := 13) (ty := .array .long) dX10_init_89 rfl rfl rfl rfl in_X10 tyX10_ok nmX10 (by decide) wk_705 rfl rfl (by decide +kernel) rfl rfl (Nat.le_of_ble_eq_true rfl) ?_
  refine KP.re (es' := .inr (10, [.int 0, .ref (B + 1), .ref (B + 2), .ref (B + 3), .ref (B + 4), .int 0, .ref (B + 5), .ref (B + 6), .ref (B + 7), .ref (B + 8), .int 0, .ref (B + 9), .ref (B + 10), .ref (B + 11), .null, .int 0, .null, .null, .null, .null, .null, .null, .null, .int 0, .null, .int 0, .null, .null, .null, .null, .null, .int 0, .null, .int 0]) :: r11) rfl ?_
  refine KP.aload_n dX10_init_92 rfl rfl ?_
  refine KP.bipush (v := 12) dX10_init_93 (by decide) ?_
  refine KP.newa (ty := .int) (t := 0) (n := 12) (a0 := (12, .inl (fun _ => 0))) (q := B + 12) dX10_init_95 rfl rfl (fun _ h => by cases h) wk_125 (fun _ => rfl) (by decide) (by decide) (by decide) (show B + (r11.length + 1) = B + 12 by rw [hr11]) (show r11.length + 1 + 1 ≤ 27 by rw [hr11]; decide) (by decide) (by decide) ?_
  refine KP.abs (m := 11) (m' := 12) hr11 rfl (fun r12 er12 hr12 => ?_)
  refine KP.putF (x := 0) (j := 14) (ty := .array .int) dX10_init_97 rfl rfl rfl rfl in_X10 tyX10_ok nmX10 (by decide) wk_706 rfl rfl (by decide +kernel) rfl rfl (Nat.le_of_ble_eq_true rfl) ?_
  refine KP.re (es' := .inr (10, [.int 0, .ref (B + 1), .ref (B + 2), .ref (B + 3), .ref (B + 4), .int 0, .ref (B + 5), .ref (B + 6), .ref (B + 7), .ref (B + 8), .int 0, .ref (B + 9), .ref (B + 10), .ref (B + 11), .ref (B + 12), .int 0, .null, .null, .null, .null, .null, .null, .null, .int 0, .null, .int 0, .null, .null, .null, .null, .null, .int 0, .null, .int 0]) :: r12) rfl ?_
  refine KP.aload_n dX10_init_100 rfl rfl ?_
  refine KP.bipush (v := 12) dX10_init_101 (by decide) ?_
  refine KP.newa (ty := .int) (t := 0) (n := 12) (a0 := (12, .inl (fun _ => 0))) (q := B + 13) dX10_init_103 rfl rfl (fun _ h => by cases h) wk_125 (fun _ => rfl) (by decide) (by decide) (by decide) (show B + (r12.length + 1) = B + 13 by rw [hr12]) (show r12.length + 1 + 1 ≤ 27 by rw [hr12]; decide) (by decide) (by decide) ?_
  refine KP.abs (m := 12) (m' := 13) hr12 rfl (fun r13 er13 hr13 => ?_)
  refine KP.putF (x := 0) (j := 16) (ty := .array .int) dX10_init_105 rfl rfl rfl rfl in_X10 tyX10_ok nmX10 (by decide) wk_708 rfl rfl (by decide +kernel) rfl rfl (Nat.le_of_ble_eq_true rfl) ?_
  refine KP.re (es' := .inr (10, [.int 0, .ref (B + 1), .ref (B + 2), .ref (B + 3), .ref (B + 4), .int 0, .ref (B + 5), .ref (B + 6), .ref (B + 7), .ref (B + 8), .int 0, .ref (B + 9), .ref (B + 10), .ref (B + 11), .ref (B + 12), .int 0, .ref (B + 13), .null, .null, .null, .null, .null, .null, .int 0, .null, .int 0, .null, .null, .null, .null, .null, .int 0, .null, .int 0]) :: r13) rfl ?_
  refine KP.aload_n dX10_init_108 rfl rfl ?_
  refine KP.bipush (v := 12) dX10_init_109 (by decide) ?_
  refine KP.newa (ty := .int) (t := 0) (n := 12) (a0 := (12, .inl (fun _ => 0))) (q := B + 14) dX10_init_111 rfl rfl (fun _ h => by cases h) wk_125 (fun _ => rfl) (by decide) (by decide) (by decide) (show B + (r13.length + 1) = B + 14 by rw [hr13]) (show r13.length + 1 + 1 ≤ 27 by rw [hr13]; decide) (by decide) (by decide) ?_
  refine KP.abs (m := 13) (m' := 14) hr13 rfl (fun r14 er14 hr14 => ?_)
  refine KP.putF (x := 0) (j := 17) (ty := .array .int) dX10_init_113 rfl rfl rfl rfl in_X10 tyX10_ok nmX10 (by decide) wk_709 rfl rfl (by decide +kernel) rfl rfl (Nat.le_of_ble_eq_true rfl) ?_
  refine KP.re (es' := .inr (10, [.int 0, .ref (B + 1), .ref (B + 2), .ref (B + 3), .ref (B + 4), .int 0, .ref (B + 5), .ref (B + 6), .ref (B + 7), .ref (B + 8), .int 0, .ref (B + 9), .ref (B + 10), .ref (B + 11), .ref (B + 12), .int 0, .ref (B + 13), .ref (B + 14), .null, .null, .null, .null, .null, .int 0, .null, .int 0, .null, .null, .null, .null, .null, .int 0, .null, .int 0]) :: r14) rfl ?_
  refine KP.aload_n dX10_init_116 rfl rfl ?_
  refine KP.bipush (v := 12) dX10_init_117 (by decide) ?_
  refine KP.newa (ty := .boolean) (t := 1) (n := 12) (a0 := (12, .inl (fun _ => 0))) (q := B + 15) dX10_init_119 rfl rfl (fun _ h => by cases h) wk_126 (fun _ => rfl) (by decide) (by decide) (by decide) (show B + (r14.length + 1) = B + 15 by rw [hr14]) (show r14.length + 1 + 1 ≤ 27 by rw [hr14]; decide) (by decide) (by decide) ?_
  refine KP.abs (m := 14) (m' := 15) hr14 rfl (fun r15 er15 hr15 => ?_)
  refine KP.putF (x := 0) (j := 18) (ty := .array .boolean) dX10_init_121 rfl rfl rfl rfl in_X10 tyX10_ok nmX10 (by decide) wk_710 rfl rfl (by decide +kernel) rfl rfl (Nat.le_of_ble_eq_true rfl) ?_
  refine KP.re (es' := .inr (10, [.int 0, .ref (B + 1), .ref (B + 2), .ref (B + 3), .ref (B + 4), .int 0, .ref (B + 5), .ref (B + 6), .ref (B + 7), .ref (B + 8), .int 0, .ref (B + 9), .ref (B + 10), .ref (B + 11), .ref (B + 12), .int 0, .ref (B + 13), .ref (B + 14), .ref (B + 15), .null, .null, .null, .null, .int 0, .null, .int 0, .null, .null, .null, .null, .null, .int 0, .null, .int 0]) :: r15) rfl ?_
  refine KP.aload_n dX10_init_124 rfl rfl ?_
  refine KP.bipush (v := 12) dX10_init_125 (by decide) ?_
  refine KP.newa (ty := .int) (t := 0) (n := 12) (a0 := (12, .inl (fun _ => 0))) (q := B + 16) dX10_init_127 rfl rfl (fun _ h => by cases h) wk_125 (fun _ => rfl) (by decide) (by decide) (by decide) (show B + (r15.length + 1) = B + 16 by rw [hr15]) (show r15.length + 1 + 1 ≤ 27 by rw [hr15]; decide) (by decide) (by decide) ?_
  refine KP.abs (m := 15) (m' := 16) hr15 rfl (fun r16 er16 hr16 => ?_)
  refine KP.putF (x := 0) (j := 19) (ty := .array .int) dX10_init_129 rfl rfl rfl rfl in_X10 tyX10_ok nmX10 (by decide) wk_711 rfl rfl (by decide +kernel) rfl rfl (Nat.le_of_ble_eq_true rfl) ?_
  refine KP.re (es' := .inr (10, [.int 0, .ref (B + 1), .ref (B + 2), .ref (B + 3), .ref (B + 4), .int 0, .ref (B + 5), .ref (B + 6), .ref (B + 7), .ref (B + 8), .int 0, .ref (B + 9), .ref (B + 10), .ref (B + 11), .ref (B + 12), .int 0, .ref (B + 13), .ref (B + 14), .ref (B + 15), .ref (B + 16), .null, .null, .null, .int 0, .null, .int 0, .null, .null, .null, .null, .null, .int 0, .null, .int 0]) :: r16) rfl ?_
  refine KP.aload_n dX10_init_132 rfl rfl ?_
  refine KP.bipush (v := 12) dX10_init_133 (by decide) ?_
  refine KP.newa (ty := .int) (t := 0) (n := 12) (a0 := (12, .inl (fun _ => 0))) (q := B + 17) dX10_init_135 rfl rfl (fun _ h => by cases h) wk_125 (fun _ => rfl) (by decide) (by decide) (by decide) (show B + (r16.length + 1) = B + 17 by rw [hr16]) (show r16.length + 1 + 1 ≤ 27 by rw [hr16]; decide) (by decide) (by decide) ?_
  refine KP.abs (m := 16) (m' := 17) hr16 rfl (fun r17 er17 hr17 => ?_)
  refine KP.putF (x := 0) (j := 20) (ty := .array .int) dX10_init_137 rfl rfl rfl rfl in_X10 tyX10_ok nmX10 (by decide) wk_712 rfl rfl (by decide +kernel) rfl rfl (Nat.le_of_ble_eq_true rfl) ?_
  refine KP.re (es' := .inr (10, [.int 0, .ref (B + 1), .ref (B + 2), .ref (B + 3), .ref (B + 4), .int 0, .ref (B + 5), .ref (B + 6), .ref (B + 7), .ref (B + 8), .int 0, .ref (B + 9), .ref (B + 10), .ref (B + 11), .ref (B + 12), .int 0, .ref (B + 13), .ref (B + 14), .ref (B + 15), .ref (B + 16), .ref (B + 17), .null, .null, .int 0, .null, .int 0, .null, .null, .null, .null, .null, .int 0, .null, .int 0]) :: r17) rfl ?_
  refine KP.aload_n dX10_init_140 rfl rfl ?_
  refine KP.bipush (v := 50) dX10_init_141 (by decide) ?_
  refine KP.newa (ty := .int) (t := 0) (n := 50) (a0 := (50, .inl (fun _ => 0))) (q := B + 18) dX10_init_143 rfl rfl (fun _ h => by cases h) wk_125 (fun _ => rfl) (by decide) (by decide) (by decide) (show B + (r17.length + 1) = B + 18 by rw [hr17]) (show r17.length + 1 + 1 ≤ 27 by rw [hr17]; decide) (by decide) (by decide) ?_
  refine KP.abs (m := 17) (m' := 18) hr17 rfl (fun r18 er18 hr18 => ?_)
  refine KP.putF (x := 0) (j := 21) (ty := .array .int) dX10_init_145 rfl rfl rfl rfl in_X10 tyX10_ok nmX10 (by decide) wk_713 rfl rfl (by decide +kernel) rfl rfl (Nat.le_of_ble_eq_true rfl) ?_
  refine KP.re (es' := .inr (10, [.int 0, .ref (B + 1), .ref (B + 2), .ref (B + 3), .ref (B + 4), .int 0, .ref (B + 5), .ref (B + 6), .ref (B + 7), .ref (B + 8), .int 0, .ref (B + 9), .ref (B + 10), .ref (B + 11), .ref (B + 12), .int 0, .ref (B + 13), .ref (B + 14), .ref (B + 15), .ref (B + 16), .ref (B + 17), .ref (B + 18), .null, .int 0, .null, .int 0, .null, .null, .null, .null, .null, .int 0, .null, .int 0]) :: r18) rfl ?_
  refine KP.aload_n dX10_init_148 rfl rfl ?_
  refine KP.bipush (v := 48) dX10_init_149 (by decide) ?_
  refine KP.newa (ty := .int) (t := 0) (n := 48) (a0 := (48, .inl (fun _ => 0))) (q := B + 19) dX10_init_151 rfl rfl (fun _ h => by cases h) wk_125 (fun _ => rfl) (by decide) (by decide) (by decide) (show B + (r18.length + 1) = B + 19 by rw [hr18]) (show r18.length + 1 + 1 ≤ 27 by rw [hr18]; decide) (by decide) (by decide) ?_
  refine KP.abs (m := 18) (m' := 19) hr18 rfl (fun r19 er19 hr19 => ?_)
  refine KP.putF (x := 0) (j := 22) (ty := .array .int) dX10_init_153 rfl rfl rfl rfl in_X10 tyX10_ok nmX10 (by decide) wk_714 rfl rfl (by decide +kernel) rfl rfl (Nat.le_of_ble_eq_true rfl) ?_
  refine KP.re (es' := .inr (10, [.int 0, .ref (B + 1), .ref (B + 2), .ref (B + 3), .ref (B + 4), .int 0, .ref (B + 5), .ref (B + 6), .ref (B + 7), .ref (B + 8), .int 0, .ref (B + 9), .ref (B + 10), .ref (B + 11), .ref (B + 12), .int 0, .ref (B + 13), .ref (B + 14), .ref (B + 15), .ref (B + 16), .ref (B + 17), .ref (B + 18), .ref (B + 19), .int 0, .null, .int 0, .null, .null, .null, .null, .null, .int 0, .null, .int 0]) :: r19) rfl ?_
  refine KP.aload_n dX10_init_156 rfl rfl ?_
  refine KP.bipush (v := 12) dX10_init_157 (by decide) ?_
  refine KP.newa (ty := .int) (t := 0) (n := 12) (a0 := (12, .inl (fun _ => 0))) (q := B + 20) dX10_init_159 rfl rfl (fun _ h => by cases h) wk_125 (fun _ => rfl) (by decide) (by decide) (by decide) (show B + (r19.length + 1) = B + 20 by rw [hr19]) (show r19.length + 1 + 1 ≤ 27 by rw [hr19]; decide) (by decide) (by decide) ?_
  refine KP.abs (m := 19) (m' := 20) hr19 rfl (fun r20 er20 hr20 => ?_)
  refine KP.putF (x := 0) (j := 24) (ty := .array .int) dX10_init_161 rfl rfl rfl rfl in_X10 tyX10_ok nmX10 (by decide) wk_716 rfl rfl (by decide +kernel) rfl rfl (Nat.le_of_ble_eq_true rfl) ?_
  refine KP.re (es' := .inr (10, [.int 0, .ref (B + 1), .ref (B + 2), .ref (B + 3), .ref (B + 4), .int 0, .ref (B + 5), .ref (B + 6), .ref (B + 7), .ref (B + 8), .int 0, .ref (B + 9), .ref (B + 10), .ref (B + 11), .ref (B + 12), .int 0, .ref (B + 13), .ref (B + 14), .ref (B + 15), .ref (B + 16), .ref (B + 17), .ref (B + 18), .ref (B + 19), .int 0, .ref (B + 20), .int 0, .null, .null, .null, .null, .null, .int 0, .null, .int 0]) :: r20) rfl ?_
  refine KP.aload_n dX10_init_164 rfl rfl ?_
  refine KP.bipush (v := 6) dX10_init_165 (by decide) ?_
  refine KP.newa (ty := .int) (t := 0) (n := 6) (a0 := (6, .inl (fun _ => 0))) (q := B + 21) dX10_init_167 rfl rfl (fun _ h => by cases h) wk_125 (fun _ => rfl) (by decide) (by decide) (by decide) (show B + (r20.length + 1) = B + 21 by rw [hr20]) (show r20.length + 1 + 1 ≤ 27 by rw [hr20]; decide) (by decide) (by decide) ?_
  refine KP.abs (m := 20) (m' := 21) hr20 rfl (fun r21 er21 hr21 => ?_)
  refine KP.putF (x := 0) (j := 26) (ty := .array .int) dX10_init_169 rfl rfl rfl rfl in_X10 tyX10_ok nmX10 (by decide) wk_718 rfl rfl (by decide +kernel) rfl rfl (Nat.le_of_ble_eq_true rfl) ?_
  refine KP.re (es' := .inr (10, [.int 0, .ref (B + 1), .ref (B + 2), .ref (B + 3), .ref (B + 4), .int 0, .ref (B + 5), .ref (B + 6), .ref (B + 7), .ref (B + 8), .int 0, .ref (B + 9), .ref (B + 10), .ref (B + 11), .ref (B + 12), .int 0, .ref (B + 13), .ref (B + 14), .ref (B + 15), .ref (B + 16), .ref (B + 17), .ref (B + 18), .ref (B + 19), .int 0, .ref (B + 20), .int 0, .ref (B + 21), .null, .null, .null, .null, .int 0, .null, .int 0]) :: r21) rfl ?_
  refine KP.aload_n dX10_init_172 rfl rfl ?_
  refine KP.bipush (v := 6) dX10_init_173 (by decide) ?_
  refine KP.newa (ty := .int) (t := 0) (n := 6) (a0 := (6, .inl (fun _ => 0))) (q := B + 22) dX10_init_175 rfl rfl (fun _ h => by cases h) wk_125 (fun _ => rfl) (by decide) (by decide) (by decide) (show B + (r21.length + 1) = B + 22 by rw [hr21]) (show r21.length + 1 + 1 ≤ 27 by rw [hr21]; decide) (by decide) (by decide) ?_
  refine KP.abs (m := 21) (m' := 22) hr21 rfl (fun r22 er22 hr22 => ?_)
  refine KP.putF (x := 0) (j := 27) (ty := .array .int) dX10_init_177 rfl rfl rfl rfl in_X10 tyX10_ok nmX10 (by decide) wk_719 rfl rfl (by decide +kernel) rfl rfl (Nat.le_of_ble_eq_true rfl) ?_
  refine KP.re (es' := .inr (10, [.int 0, .ref (B + 1), .ref (B + 2), .ref (B + 3), .ref (B + 4), .int 0, .ref (B + 5), .ref (B + 6), .ref (B + 7), .ref (B + 8), .int 0, .ref (B + 9), .ref (B + 10), .ref (B + 11), .ref (B + 12), .int 0, .ref (B + 13), .ref (B + 14), .ref (B + 15), .ref (B + 16), .ref (B + 17), .ref (B + 18), .ref (B + 19), .int 0, .ref (B + 20), .int 0, .ref (B + 21), .ref (B + 22), .null, .null, .null, .int 0, .null, .int 0]) :: r22) rfl ?_
  refine KP.aload_n dX10_init_180 rfl rfl ?_
  refine KP.bipush (v := 6) dX10_init_181 (by decide) ?_
  refine KP.newa (ty := .boolean) (t := 1) (n := 6) (a0 := (6, .inl (fun _ => 0))) (q := B + 23) dX10_init_183 rfl rfl (fun _ h => by cases h) wk_126 (fun _ => rfl) (by decide) (by decide) (by decide) (show B + (r22.length + 1) = B + 23 by rw [hr22]) (show r22.length + 1 + 1 ≤ 27 by rw [hr22]; decide) (by decide) (by decide) ?_
  refine KP.abs (m := 22) (m' := 23) hr22 rfl (fun r23 er23 hr23 => ?_)
  refine KP.putF (x := 0) (j := 28) (ty := .array .boolean) dX10_init_185 rfl rfl rfl rfl in_X10 tyX10_ok nmX10 (by decide) wk_720 rfl rfl (by decide +kernel) rfl rfl (Nat.le_of_ble_eq_true rfl) ?_
  refine KP.re (es' := .inr (10, [.int 0, .ref (B + 1), .ref (B + 2), .ref (B + 3), .ref (B + 4), .int 0, .ref (B + 5), .ref (B + 6), .ref (B + 7), .ref (B + 8), .int 0, .ref (B + 9), .ref (B + 10), .ref (B + 11), .ref (B + 12), .int 0, .ref (B + 13), .ref (B + 14), .ref (B + 15), .ref (B + 16), .ref (B + 17), .ref (B + 18), .ref (B + 19), .int 0, .ref (B + 20), .int 0, .ref (B + 21), .ref (B + 22), .ref (B + 23), .null, .null, .int 0, .null, .int 0]) :: r23) rfl ?_
  refine KP.aload_n dX10_init_188 rfl rfl ?_
  refine KP.bipush (v := 72) dX10_init_189 (by decide) ?_
  refine KP.newa (ty := .int) (t := 0) (n := 72) (a0 := (72, .inl (fun _ => 0))) (q := B + 24) dX10_init_191 rfl rfl (fun _ h => by cases h) wk_125 (fun _ => rfl) (by decide) (by decide) (by decide) (show B + (r23.length + 1) = B + 24 by rw [hr23]) (show r23.length + 1 + 1 ≤ 27 by rw [hr23]; decide) (by decide) (by decide) ?_
  refine KP.abs (m := 23) (m' := 24) hr23 rfl (fun r24 er24 hr24 => ?_)
  refine KP.putF (x := 0) (j := 29) (ty := .array .int) dX10_init_193 rfl rfl rfl rfl in_X10 tyX10_ok nmX10 (by decide) wk_721 rfl rfl (by decide +kernel) rfl rfl (Nat.le_of_ble_eq_true rfl) ?_
  refine KP.re (es' := .inr (10, [.int 0, .ref (B + 1), .ref (B + 2), .ref (B + 3), .ref (B + 4), .int 0, .ref (B + 5), .ref (B + 6), .ref (B + 7), .ref (B + 8), .int 0, .ref (B + 9), .ref (B + 10), .ref (B + 11), .ref (B + 12), .int 0, .ref (B + 13), .ref (B + 14), .ref (B + 15), .ref (B + 16), .ref (B + 17), .ref (B + 18), .ref (B + 19), .int 0, .ref (B + 20), .int 0, .ref (B + 21), .ref (B + 22), .ref (B + 23), .ref (B + 24), .null, .int 0, .null, .int 0]) :: r24) rfl ?_
  refine KP.aload_n dX10_init_196 rfl rfl ?_
  refine KP.bipush (v := 72) dX10_init_197 (by decide) ?_
  refine KP.newa (ty := .int) (t := 0) (n := 72) (a0 := (72, .inl (fun _ => 0))) (q := B + 25) dX10_init_199 rfl rfl (fun _ h => by cases h) wk_125 (fun _ => rfl) (by decide) (by decide) (by decide) (show B + (r24.length + 1) = B + 25 by rw [hr24]) (show r24.length + 1 + 1 ≤ 27 by rw [hr24]; decide) (by decide) (by decide) ?_
  refine KP.abs (m := 24) (m' := 25) hr24 rfl (fun r25 er25 hr25 => ?_)
  refine KP.putF (x := 0) (j := 30) (ty := .array .int) dX10_init_201 rfl rfl rfl rfl in_X10 tyX10_ok nmX10 (by decide) wk_722 rfl rfl (by decide +kernel) rfl rfl (Nat.le_of_ble_eq_true rfl) ?_
  refine KP.re (es' := .inr (10, [.int 0, .ref (B + 1), .ref (B + 2), .ref (B + 3), .ref (B + 4), .int 0, .ref (B + 5), .ref (B + 6), .ref (B + 7), .ref (B + 8), .int 0, .ref (B + 9), .ref (B + 10), .ref (B + 11), .ref (B + 12), .int 0, .ref (B + 13), .ref (B + 14), .ref (B + 15), .ref (B + 16), .ref (B + 17), .ref (B + 18), .ref (B + 19), .int 0, .ref (B + 20), .int 0, .ref (B + 21), .ref (B + 22), .ref (B + 23), .ref (B + 24), .ref (B + 25), .int 0, .null, .int 0]) :: r25) rfl ?_
  refine KP.aload_n dX10_init_204 rfl rfl ?_
  refine KP.bipush (v := 12) dX10_init_205 (by decide) ?_
  refine KP.newa (ty := .int) (t := 0) (n := 12) (a0 := (12, .inl (fun _ => 0))) (q := B + 26) dX10_init_207 rfl rfl (fun _ h => by cases h) wk_125 (fun _ => rfl) (by decide) (by decide) (by decide) (show B + (r25.length + 1) = B + 26 by rw [hr25]) (show r25.length + 1 + 1 ≤ 27 by rw [hr25]; decide) (by decide) (by decide) ?_
  refine KP.abs (m := 25) (m' := 26) hr25 rfl (fun r26 er26 hr26 => ?_)
  refine KP.putF (x := 0) (j := 32) (ty := .array .int) dX10_init_209 rfl rfl rfl rfl in_X10 tyX10_ok nmX10 (by decide) wk_724 rfl rfl (by decide +kernel) rfl rfl (Nat.le_of_ble_eq_true rfl) ?_
  refine KP.re (es' := .inr (10, [.int 0, .ref (B + 1), .ref (B + 2), .ref (B + 3), .ref (B + 4), .int 0, .ref (B + 5), .ref (B + 6), .ref (B + 7), .ref (B + 8), .int 0, .ref (B + 9), .ref (B + 10), .ref (B + 11), .ref (B + 12), .int 0, .ref (B + 13), .ref (B + 14), .ref (B + 15), .ref (B + 16), .ref (B + 17), .ref (B + 18), .ref (B + 19), .int 0, .ref (B + 20), .int 0, .ref (B + 21), .ref (B + 22), .ref (B + 23), .ref (B + 24), .ref (B + 25), .int 0, .ref (B + 26), .int 0]) :: r26) rfl ?_
  subst er26
  subst er25
  subst er24
  subst er23
  subst er22
  subst er21
  subst er20
  subst er19
  subst er18
  subst er17
  subst er16
  subst er15
  subst er14
  subst er13
  subst er12
  subst er11
  subst er10
  subst er9
  subst er8
  subst er7
  subst er6
  subst er5
  subst er4
  subst er3
  subst er2
  subst er1
  refine KP.re (es' := .inr (10, [.int 0, .ref (B + 1), .ref (B + 2), .ref (B + 3), .ref (B + 4), .int 0, .ref (B + 5), .ref (B + 6), .ref (B + 7), .ref (B + 8), .int 0, .ref (B + 9), .ref (B + 10), .ref (B + 11), .ref (B + 12), .int 0, .ref (B + 13), .ref (B + 14), .ref (B + 15), .ref (B + 16), .ref (B + 17), .ref (B + 18), .ref (B + 19), .int 0, .ref (B + 20), .int 0, .ref (B + 21), .ref (B + 22), .ref (B + 23), .ref (B + 24), .ref (B + 25), .int 0, .ref (B + 26), .int 0]) :: [.inl (tc 0, 12, .inl (fun _ => 0)), .inl (tc 0, 12, .inl (fun _ => 0)), .inl (tc 0, 12, .inl (fun _ => 0)), .inl (tc 0, 48, .inl (fun _ => 0)), .inl (tc 0, 50, .inl (fun _ => 0)), .inl (tc 0, 50, .inl (fun _ => 0)), .inl (tc 0, 50, .inl (fun _ => 0)), .inl (tc 0, 50, .inl (fun _ => 0)), .inl (tc 0, 12, .inl (fun _ => 0)), .inl (tc 0, 12, .inl (fun _ => 0)), .inl (tc 2, 12, .inr (.inl (fun _ => 0))), .inl (tc 0, 12, .inl (fun _ => 0)), .inl (tc 0, 12, .inl (fun _ => 0)), .inl (tc 0, 12, .inl (fun _ => 0)), .inl (tc 1, 12, .inl (fun _ => 0)), .inl (tc 0, 12, .inl (fun _ => 0)), .inl (tc 0, 12, .inl (fun _ => 0)), .inl (tc 0, 50, .inl (fun _ => 0)), .inl (tc 0, 48, .inl (fun _ => 0)), .inl (tc 0, 12, .inl (fun _ => 0)), .inl (tc 0, 6, .inl (fun _ => 0)), .inl (tc 0, 6, .inl (fun _ => 0)), .inl (tc 1, 6, .inl (fun _ => 0)), .inl (tc 0, 72, .inl (fun _ => 0)), .inl (tc 0, 72, .inl (fun _ => 0)), .inl (tc 0, 12, .inl (fun _ => 0))]) (by simp only [List.nil_append, List.cons_append]) ?_
  refine KP.toWP (L := lay_X10) (D := fun k => B + k) (M := ((fun _ _ => 0, fun _ _ => 0) : Mm)) [some (.ref 0), none] [] (fun _ _ => rfl) rfl rfl rfl (by decide) (TX10_init hrun) (fun pc' lv' st' M' hq => ?_)
  rcases hq with ⟨e1, e2, e3, e4⟩ | ⟨v, e1, _⟩ | ⟨v, e1, _⟩ | ⟨v, e1, _⟩
  · obtain ⟨-, rfl⟩ := e4
    subst e3
    exact ⟨e2, rfl, rfl, rfl, rfl⟩
  · cases e1
  · cases e1
  · cases e1
