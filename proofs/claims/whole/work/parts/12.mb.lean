/-! X5_has -/
def rX5_has : Room := { frames := 0, cells := 0, slots := 0, locals := 0 }
def FX5_has (x1 : Int32) (M : Mm) : Option Int32 :=
  (if x1 < 0 then some 0 else (if (M.1 43 5) ≤ x1 then some 0 else some 1))
theorem eFX5_has (x1 : Int32) (M : Mm) : FX5_has x1 M = (if x1 < 0 then some 0 else (if (M.1 43 5) ≤ x1 then some 0 else some 1)) := rfl
set_option maxRecDepth 20000 in
theorem TX5_has {l : Launch} {G : va_G} {tc : Nat → ClassId} {D : Nat → Nat} {x1 : Int32} {M : Mm} {R : Int32} (h : FX5_has x1 M = some R) : WP l G tc D lay (fun _ => True) yX5_has.cls cX5_has 2 rX5_has (.code yX5_has cX5_has 2 (some .boolean)) 0 (entL 2 [.ref 43, .int x1]) [] M (RetQ cX5_has (some .boolean) (RQI R M)) := by
  show WP l G tc D lay (fun _ => True) RX5 cX5_has 2 rX5_has (.code yX5_has cX5_has 2 (some .boolean)) 0 [some (.ref 43), some (.int x1)] [] M (RetQ cX5_has (some .boolean) (RQI R M))
  unfold FX5_has at h
  refine WP.iload_n dX5_has_0 rfl rfl ?_
  refine WP.if_lt (tgt := 16) dX5_has_1 (by decide) (fun c1 => ?_) (fun c1 => ?_)
  · rw [if_pos c1] at h
    refine WP.iconst (v := 0) dX5_has_16 (by decide) ?_
    cases h
    exact WP.zret dX5_has_17 (by decide) ⟨rfl, rfl⟩
  · rw [if_neg c1] at h
    refine WP.iload_n dX5_has_4 rfl rfl ?_
    refine WP.aload_n dX5_has_5 rfl rfl ?_
    refine WP.getI (j := 5) dX5_has_6 rfl rfl in_X5 (by decide) wd_257 rfl ?_
    refine WP.icmp_ge (tgt := 16) dX5_has_9 (by decide) (fun c2 => ?_) (fun c2 => ?_)
    · rw [if_pos c2] at h
      refine WP.iconst (v := 0) dX5_has_16 (by decide) ?_
      cases h
      exact WP.zret dX5_has_17 (by decide) ⟨rfl, rfl⟩
    · rw [if_neg c2] at h
      refine WP.iconst (v := 1) dX5_has_12 (by decide) ?_
      refine WP.goto (tgt := 17) dX5_has_13 (by decide) ?_
      cases h
      exact WP.zret dX5_has_17 (by decide) ⟨rfl, rfl⟩
/-! X6_valueOf -/
def rX6_valueOf : Room := { frames := 0, cells := 0, slots := 0, locals := 0 }
def FX6_valueOf (s : Nat) (x1 : Int32) (M : Mm) : Option Int32 :=
  (if x1 = (-9) then some (-2000000000) else (rdI M (s + 1) 50 x1).bind fun v2 => some v2)
theorem eFX6_valueOf (s : Nat) (x1 : Int32) (M : Mm) : FX6_valueOf s x1 M = (if x1 = (-9) then some (-2000000000) else (rdI M (s + 1) 50 x1).bind fun v2 => some v2) := rfl
set_option maxRecDepth 20000 in
theorem TX6_valueOf {l : Launch} {G : va_G} {tc : Nat → ClassId} {D : Nat → Nat} {s : Nat} {x1 : Int32} {M : Mm} (hs : lay[s]? = some (.inl (6, [some (s + 1), some (s + 2), some (s + 3)]))) (hs1 : lay[s + 1]? = some (.inr (.inl (0, 50)))) (hs2 : lay[s + 2]? = some (.inr (.inl (1, 12)))) (hs3 : lay[s + 3]? = some (.inr (.inl (0, 12)))) {R : Int32} (h : FX6_valueOf s x1 M = some R) : WP l G tc D lay (fun _ => True) yX6_valueOf.cls cX6_valueOf 2 rX6_valueOf (.code yX6_valueOf cX6_valueOf 2 (some .int)) 0 (entL 2 [.ref s, .int x1]) [] M (RetQ cX6_valueOf (some .int) (RQI R M)) := by
  show WP l G tc D lay (fun _ => True) RX6 cX6_valueOf 2 rX6_valueOf (.code yX6_valueOf cX6_valueOf 2 (some .int)) 0 [some (.ref s), some (.int x1)] [] M (RetQ cX6_valueOf (some .int) (RQI R M))
  unfold FX6_valueOf at h
  refine WP.iload_n dX6_valueOf_0 rfl rfl ?_
  refine WP.bipush (v := (-9)) dX6_valueOf_1 (by decide) ?_
  refine WP.icmp_ne (tgt := 11) dX6_valueOf_3 (by decide) (fun c1 => ?_) (fun c1 => ?_)
  · rw [if_neg c1] at h
    refine WP.aload_n dX6_valueOf_11 rfl rfl ?_
    refine WP.getR (j := 0) dX6_valueOf_12 hs rfl in_X6 (by decide) wd_212 rfl ?_
    refine WP.iload_n dX6_valueOf_15 rfl rfl ?_
    obtain ⟨v2, h3, h⟩ := Option.bind_eq_some_iff.mp h
    refine WP.ialdQ dX6_valueOf_16 hs1 h3 ?_
    cases h
    exact WP.iret dX6_valueOf_17 ⟨rfl, rfl⟩
  · rw [if_pos c1] at h
    refine WP.ldc (v := (-2000000000)) dX6_valueOf_6 wd_494 ?_
    refine WP.goto (tgt := 17) dX6_valueOf_8 (by decide) ?_
    cases h
    exact WP.iret dX6_valueOf_17 ⟨rfl, rfl⟩
/-! X6_statusOf -/
def rX6_statusOf : Room := { frames := 1, cells := 0, slots := 0, locals := 21 }
def FX6_statusOf (s : Nat) (x2 : Int32) (M : Mm) : Option Int32 :=
  (rdI M (s + 2) 12 x2).bind fun v1 => (if v1 = 0 then some 0 else (rdI M (s + 3) 12 x2).bind fun v4 => (if v4 = (-2000000000) then (ckR 7 12 x2).bind fun k14 => (rdI M k14 4 1).bind fun v16 => (FX6_valueOf s v16 M).bind fun r19 => (FX9_isYes r19 M).bind fun r21 => (if r21 = 0 then some 1 else some 2) else (ckR 7 12 x2).bind fun k7 => (rdI M k7 4 2).bind fun v9 => (FX6_valueOf s v9 M).bind fun r12 => (if r12 = 0 then some 4 else some 3)))
theorem eFX6_statusOf (s : Nat) (x2 : Int32) (M : Mm) : FX6_statusOf s x2 M = (rdI M (s + 2) 12 x2).bind fun v1 => (if v1 = 0 then some 0 else (rdI M (s + 3) 12 x2).bind fun v4 => (if v4 = (-2000000000) then (ckR 7 12 x2).bind fun k14 => (rdI M k14 4 1).bind fun v16 => (FX6_valueOf s v16 M).bind fun r19 => (FX9_isYes r19 M).bind fun r21 => (if r21 = 0 then some 1 else some 2) else (ckR 7 12 x2).bind fun k7 => (rdI M k7 4 2).bind fun v9 => (FX6_valueOf s v9 M).bind fun r12 => (if r12 = 0 then some 4 else some 3))) := rfl
set_option maxRecDepth 20000 in
theorem TX6_statusOf {l : Launch} {G : va_G} {tc : Nat → ClassId} {D : Nat → Nat} {s : Nat} {x2 : Int32} {M : Mm} (hs : lay[s]? = some (.inl (6, [some (s + 1), some (s + 2), some (s + 3)]))) (hs1 : lay[s + 1]? = some (.inr (.inl (0, 50)))) (hs2 : lay[s + 2]? = some (.inr (.inl (1, 12)))) (hs3 : lay[s + 3]? = some (.inr (.inl (0, 12)))) {R : Int32} (h : FX6_statusOf s x2 M = some R) : WP l G tc D lay (fun _ => True) yX6_statusOf.cls cX6_statusOf 3 rX6_statusOf (.code yX6_statusOf cX6_statusOf 3 (some .int)) 0 (entL 3 [.ref s, .ref 2, .int x2]) [] M (RetQ cX6_statusOf (some .int) (RQI R M)) := by
  show WP l G tc D lay (fun _ => True) RX6 cX6_statusOf 3 rX6_statusOf (.code yX6_statusOf cX6_statusOf 3 (some .int)) 0 [some (.ref s), some (.ref 2), some (.int x2)] [] M (RetQ cX6_statusOf (some .int) (RQI R M))
  unfold FX6_statusOf at h
  refine WP.aload_n dX6_statusOf_0 rfl rfl ?_
  refine WP.getR (j := 1) dX6_statusOf_1 hs rfl in_X6 (by decide) wd_214 rfl ?_
  refine WP.iload_n dX6_statusOf_4 rfl rfl ?_
  obtain ⟨v1, h2, h⟩ := Option.bind_eq_some_iff.mp h
  refine WP.zaldQ dX6_statusOf_5 hs2 h2 ?_
  refine WP.if_ne (tgt := 11) dX6_statusOf_6 (by decide) (fun c3 => ?_) (fun c3 => ?_)
  · rw [if_neg c3] at h
    refine WP.aload_n dX6_statusOf_11 rfl rfl ?_
    refine WP.getR (j := 2) dX6_statusOf_12 hs rfl in_X6 (by decide) wd_216 rfl ?_
    refine WP.iload_n dX6_statusOf_15 rfl rfl ?_
    obtain ⟨v4, h5, h⟩ := Option.bind_eq_some_iff.mp h
    refine WP.ialdQ dX6_statusOf_16 hs3 h5 ?_
    refine WP.ldc (v := (-2000000000)) dX6_statusOf_17 wd_494 ?_
    refine WP.icmp_ne (tgt := 46) dX6_statusOf_19 (by decide) (fun c6 => ?_) (fun c6 => ?_)
    · rw [if_neg c6] at h
      refine WP.aload_n dX6_statusOf_46 rfl rfl ?_
      refine WP.aload_n dX6_statusOf_47 rfl rfl ?_
      refine WP.getR (j := 3) dX6_statusOf_48 rfl rfl in_X0 (by decide) wd_96 rfl ?_
      refine WP.iload_n dX6_statusOf_51 rfl rfl ?_
      obtain ⟨k7, h8, h⟩ := Option.bind_eq_some_iff.mp h
      refine WP.aaldQ (base := 7) (n := 12) dX6_statusOf_52 rfl rfl h8 ?_
      have hk7 := rows_6 h8
      refine WP.iconst (v := 2) dX6_statusOf_53 (by decide) ?_
      obtain ⟨v9, h10, h⟩ := Option.bind_eq_some_iff.mp h
      refine WP.ialdQ dX6_statusOf_54 hk7 h10 ?_
      obtain ⟨r12, h11, h⟩ := Option.bind_eq_some_iff.mp h
      refine WP.callVI [.int v9] dX6_statusOf_55 lk_X6_45 hs rfl rfl (Nat.le_of_ble_eq_true rfl) (by decide) (Nat.le_of_ble_eq_true rfl) rfl (TX6_valueOf (s := s) hs hs1 hs2 hs3 h11) ?_
      refine WP.if_ne (tgt := 65) dX6_statusOf_58 (by decide) (fun c13 => ?_) (fun c13 => ?_)
      · rw [if_neg c13] at h
        refine WP.iconst (v := 3) dX6_statusOf_65 (by decide) ?_
        cases h
        exact WP.iret dX6_statusOf_66 ⟨rfl, rfl⟩
      · rw [if_pos c13] at h
        refine WP.iconst (v := 4) dX6_statusOf_61 (by decide) ?_
        refine WP.goto (tgt := 66) dX6_statusOf_62 (by decide) ?_
        cases h
        exact WP.iret dX6_statusOf_66 ⟨rfl, rfl⟩
    · rw [if_pos c6] at h
      refine WP.aload_n dX6_statusOf_22 rfl rfl ?_
      refine WP.aload_n dX6_statusOf_23 rfl rfl ?_
      refine WP.getR (j := 3) dX6_statusOf_24 rfl rfl in_X0 (by decide) wd_96 rfl ?_
      refine WP.iload_n dX6_statusOf_27 rfl rfl ?_
      obtain ⟨k14, h15, h⟩ := Option.bind_eq_some_iff.mp h
      refine WP.aaldQ (base := 7) (n := 12) dX6_statusOf_28 rfl rfl h15 ?_
      have hk14 := rows_6 h15
      refine WP.iconst (v := 1) dX6_statusOf_29 (by decide) ?_
      obtain ⟨v16, h17, h⟩ := Option.bind_eq_some_iff.mp h
      refine WP.ialdQ dX6_statusOf_30 hk14 h17 ?_
      obtain ⟨r19, h18, h⟩ := Option.bind_eq_some_iff.mp h
      refine WP.callVI [.int v16] dX6_statusOf_31 lk_X6_45 hs rfl rfl (Nat.le_of_ble_eq_true rfl) (by decide) (Nat.le_of_ble_eq_true rfl) rfl (TX6_valueOf (s := s) hs hs1 hs2 hs3 h18) ?_
      obtain ⟨r21, h20, h⟩ := Option.bind_eq_some_iff.mp h
      refine WP.callNI [.int r19] dX6_statusOf_34 lk_X6_49 rfl (Nat.le_of_ble_eq_true rfl) (by decide) (Nat.le_of_ble_eq_true rfl) rfl (TX9_isYes h20) ?_
      refine WP.if_eq (tgt := 44) dX6_statusOf_37 (by decide) (fun c22 => ?_) (fun c22 => ?_)
      · rw [if_pos c22] at h
        refine WP.iconst (v := 1) dX6_statusOf_44 (by decide) ?_
        cases h
        exact WP.iret dX6_statusOf_45 ⟨rfl, rfl⟩
      · rw [if_neg c22] at h
        refine WP.iconst (v := 2) dX6_statusOf_40 (by decide) ?_
        refine WP.goto (tgt := 45) dX6_statusOf_41 (by decide) ?_
        cases h
        exact WP.iret dX6_statusOf_45 ⟨rfl, rfl⟩
  · rw [if_pos c3] at h
    refine WP.iconst (v := 0) dX6_statusOf_9 (by decide) ?_
    cases h
    exact WP.iret dX6_statusOf_10 ⟨rfl, rfl⟩
/-! X5_add -/
def rX5_add : Room := { frames := 2, cells := 0, slots := 0, locals := 43 }
def BX5_add_75 (N : Nat) (k3 : Nat) (K35 : Int32 × Int32 × Mm → Option (Int32 × Mm)) (a2 : Int32) (a6 : Int32) (a7 : Int32) (t0 : Nat) (t1 : Int32) (t2 : Int32) (M : Mm) : Option (Int32 × Mm) :=
  (wrI M t0 12 t1 t2).bind fun M1 => (ckR 55 6 (M1.1 43 5)).bind fun k3 => (if a7 = 0 then (wrI M1 k3 12 a6 (-9)).bind fun M6 => K35 (a2, (a6 + 1), M6) else (FX6_statusOf 37 a6 M1).bind fun r9 => (wrI M1 k3 12 a6 r9).bind fun M10 => K35 (a2, (a6 + 1), M10))
def BX5_add_35 (N : Nat) (k3 : Nat) (K35 : Int32 × Int32 × Mm → Option (Int32 × Mm)) (q : Int32 × Int32 × Mm) : Option (Int32 × Mm) :=
  (if 12 ≤ q.2.1 then (wrF q.2.2 43 5 ((q.2.2.1 43 5) + 1)).bind fun M2 => some (((M2.1 43 5) - 1), M2) else (FX9_hasBit q.1 q.2.1 q.2.2).bind fun r5 => (ckR 48 6 (q.2.2.1 43 5)).bind fun k6 => (if r5 = 0 then BX5_add_75 N k3 K35 q.1 q.2.1 r5 k6 q.2.1 (-2000000000) q.2.2 else (rdI q.2.2 k3 12 q.2.1).bind fun v9 => BX5_add_75 N k3 K35 q.1 q.2.1 r5 k6 q.2.1 v9 q.2.2))
def FX5_add (N : Nat) (x1 : Int32) (x2 : Int32) (k3 : Nat) (M : Mm) : Option (Int32 × Mm) :=
  (if (M.1 43 5) < 6 then (wrI M 44 6 (M.1 43 5) x1).bind fun M2 => (wrI M2 45 6 (M2.1 43 5) x2).bind fun M4 => lp (BX5_add_35 N k3) N (x2, 0, M4) else some ((-4), M))
theorem eBX5_add_75 (N : Nat) (k3 : Nat) (K35 : Int32 × Int32 × Mm → Option (Int32 × Mm)) (a2 : Int32) (a6 : Int32) (a7 : Int32) (t0 : Nat) (t1 : Int32) (t2 : Int32) (M : Mm) : BX5_add_75 N k3 K35 a2 a6 a7 t0 t1 t2 M = (wrI M t0 12 t1 t2).bind fun M1 => (ckR 55 6 (M1.1 43 5)).bind fun k3 => (if a7 = 0 then (wrI M1 k3 12 a6 (-9)).bind fun M6 => K35 (a2, (a6 + 1), M6) else (FX6_statusOf 37 a6 M1).bind fun r9 => (wrI M1 k3 12 a6 r9).bind fun M10 => K35 (a2, (a6 + 1), M10)) := rfl
theorem eBX5_add_35 (N : Nat) (k3 : Nat) (K35 : Int32 × Int32 × Mm → Option (Int32 × Mm)) (q : Int32 × Int32 × Mm) : BX5_add_35 N k3 K35 q = (if 12 ≤ q.2.1 then (wrF q.2.2 43 5 ((q.2.2.1 43 5) + 1)).bind fun M2 => some (((M2.1 43 5) - 1), M2) else (FX9_hasBit q.1 q.2.1 q.2.2).bind fun r5 => (ckR 48 6 (q.2.2.1 43 5)).bind fun k6 => (if r5 = 0 then BX5_add_75 N k3 K35 q.1 q.2.1 r5 k6 q.2.1 (-2000000000) q.2.2 else (rdI q.2.2 k3 12 q.2.1).bind fun v9 => BX5_add_75 N k3 K35 q.1 q.2.1 r5 k6 q.2.1 v9 q.2.2)) := rfl
theorem eFX5_add (N : Nat) (x1 : Int32) (x2 : Int32) (k3 : Nat) (M : Mm) : FX5_add N x1 x2 k3 M = (if (M.1 43 5) < 6 then (wrI M 44 6 (M.1 43 5) x1).bind fun M2 => (wrI M2 45 6 (M2.1 43 5) x2).bind fun M4 => lp (BX5_add_35 N k3) N (x2, 0, M4) else some ((-4), M)) := rfl
set_option maxRecDepth 20000 in
theorem tX5_add_75 {l : Launch} {G : va_G} {tc : Nat → ClassId} {D : Nat → Nat} {N : Nat} {k3 : Nat} {K35 : Int32 × Int32 × Mm → Option (Int32 × Mm)} {a2 : Int32} {a6 : Int32} {a7 : Int32} {t0 : Nat} {t1 : Int32} {t2 : Int32} {M : Mm} {R : (Int32 × Mm)} (hk3 : lay[k3]? = some (.inr (.inl (0, 12)))) (ht0 : lay[t0]? = some (.inr (.inl (0, 12)))) (hK35 : ∀ (z0 : Int32) (z1 : Int32) (z2 : Mm) (R : (Int32 × Mm)), K35 (z0, z1, z2) = some R → WP l G tc D lay (fun _ => True) RX5 cX5_add 8 rX5_add (.code yX5_add cX5_add 8 (some .int)) 35 [some (.ref 43), none, some (.int z0), some (.ref k3), some (.ref 2), some (.ref 37), some (.int z1), none] [] z2 (RetQ cX5_add (some .int) (RQI R.1 R.2))) (h : BX5_add_75 N k3 K35 a2 a6 a7 t0 t1 t2 M = some R) : WP l G tc D lay (fun _ => True) RX5 cX5_add 8 rX5_add (.code yX5_add cX5_add 8 (some .int)) 75 [some (.ref 43), none, some (.int a2), some (.ref k3), some (.ref 2), some (.ref 37), some (.int a6), some (.int a7)] [.int t2, .int t1, .ref t0] M (RetQ cX5_add (some .int) (RQI R.1 R.2)) := by
  unfold BX5_add_75 at h
  obtain ⟨M1, h2, h⟩ := Option.bind_eq_some_iff.mp h
  refine WP.iastQ dX5_add_75 ht0 h2 ?_
  refine WP.aload_n dX5_add_76 rfl rfl ?_
  refine WP.getR (j := 4) dX5_add_77 rfl rfl in_X5 (by decide) wd_255 rfl ?_
  refine WP.aload_n dX5_add_80 rfl rfl ?_
  refine WP.getI (j := 5) dX5_add_81 rfl rfl in_X5 (by decide) wd_257 rfl ?_
  obtain ⟨k3, h4, h⟩ := Option.bind_eq_some_iff.mp h
  refine WP.aaldQ (base := 55) (n := 6) dX5_add_84 rfl rfl h4 ?_
  have hk3 := rows_54 h4
  refine WP.iload dX5_add_85 rfl ?_
  refine WP.iload dX5_add_87 rfl ?_
  refine WP.if_eq (tgt := 104) dX5_add_89 (by decide) (fun c5 => ?_) (fun c5 => ?_)
  · rw [if_pos c5] at h
    refine WP.bipush (v := (-9)) dX5_add_104 (by decide) ?_
    obtain ⟨M6, h7, h⟩ := Option.bind_eq_some_iff.mp h
    refine WP.iastQ dX5_add_106 hk3 h7 ?_
    refine WP.iinc (v := (a6 + 1)) dX5_add_107 rfl rfl (by decide) rfl rfl ?_
    refine WP.goto (tgt := 35) dX5_add_110 (by decide) ?_
    refine WP.fgt [true, false, true, true, true, true, true, false] rfl ?_
    exact hK35 a2 (a6 + 1) M6 _ h
  · rw [if_neg c5] at h
    refine WP.aload dX5_add_92 rfl ?_
    refine WP.aload dX5_add_94 rfl ?_
    refine WP.iload dX5_add_96 rfl ?_
    obtain ⟨r9, h8, h⟩ := Option.bind_eq_some_iff.mp h
    refine WP.callVI [.ref 2, .int a6] dX5_add_98 lk_X5_39 rfl rfl rfl (Nat.le_of_ble_eq_true rfl) (by decide) (Nat.le_of_ble_eq_true rfl) rfl (TX6_statusOf (s := 37) rfl rfl rfl rfl h8) ?_
    refine WP.goto (tgt := 106) dX5_add_101 (by decide) ?_
    obtain ⟨M10, h11, h⟩ := Option.bind_eq_some_iff.mp h
    refine WP.iastQ dX5_add_106 hk3 h11 ?_
    refine WP.iinc (v := (a6 + 1)) dX5_add_107 rfl rfl (by decide) rfl rfl ?_
    refine WP.goto (tgt := 35) dX5_add_110 (by decide) ?_
    refine WP.fgt [true, false, true, true, true, true, true, false] rfl ?_
    exact hK35 a2 (a6 + 1) M10 _ h
set_option maxRecDepth 20000 in
theorem tX5_add_35 {l : Launch} {G : va_G} {tc : Nat → ClassId} {D : Nat → Nat} {N : Nat} {k3 : Nat} (hk3 : lay[k3]? = some (.inr (.inl (0, 12)))) : ∀ (nn : Nat) (q : Int32 × Int32 × Mm) (R : (Int32 × Mm)), lp (BX5_add_35 N k3) nn q = some R → WP l G tc D lay (fun _ => True) RX5 cX5_add 8 rX5_add (.code yX5_add cX5_add 8 (some .int)) 35 [some (.ref 43), none, some (.int q.1), some (.ref k3), some (.ref 2), some (.ref 37), some (.int q.2.1), none] [] q.2.2 (RetQ cX5_add (some .int) (RQI R.1 R.2)) := by
  refine lp_ind (fun K35 hK35q q R h => ?_)
  have hK35 : ∀ (z0 : Int32) (z1 : Int32) (z2 : Mm) (R : (Int32 × Mm)), K35 (z0, z1, z2) = some R → WP l G tc D lay (fun _ => True) RX5 cX5_add 8 rX5_add (.code yX5_add cX5_add 8 (some .int)) 35 [some (.ref 43), none, some (.int z0), some (.ref k3), some (.ref 2), some (.ref 37), some (.int z1), none] [] z2 (RetQ cX5_add (some .int) (RQI R.1 R.2)) := fun z0 z1 z2 R hh => hK35q (z0, z1, z2) R hh
  unfold BX5_add_35 at h
  refine WP.iload dX5_add_35 rfl ?_
  refine WP.bipush (v := 12) dX5_add_37 (by decide) ?_
  refine WP.icmp_ge (tgt := 113) dX5_add_39 (by decide) (fun c1 => ?_) (fun c1 => ?_)
  · rw [if_pos c1] at h
    refine WP.aload_n dX5_add_113 rfl rfl ?_
    refine WP.dup dX5_add_114 rfl ?_
    refine WP.getI (j := 5) dX5_add_115 rfl rfl in_X5 (by decide) wd_257 rfl ?_
    refine WP.iconst (v := 1) dX5_add_118 (by decide) ?_
    refine WP.iadd dX5_add_119 ?_
    obtain ⟨M2, h3, h⟩ := Option.bind_eq_some_iff.mp h
    refine WP.putF (j := 5) (ty := .int) dX5_add_120 rfl rfl in_X5 tyX5_ok nmX5 (by decide) wd_257 rfl (by decide +kernel) rfl rfl rfl h3 ?_
    refine WP.aload_n dX5_add_123 rfl rfl ?_
    refine WP.getI (j := 5) dX5_add_124 rfl rfl in_X5 (by decide) wd_257 rfl ?_
    refine WP.iconst (v := 1) dX5_add_127 (by decide) ?_
    refine WP.isub dX5_add_128 ?_
    cases h
    exact WP.iret dX5_add_129 ⟨rfl, rfl⟩
  · rw [if_neg c1] at h
    refine WP.iload_n dX5_add_42 rfl rfl ?_
    refine WP.iload dX5_add_43 rfl ?_
    obtain ⟨r5, h4, h⟩ := Option.bind_eq_some_iff.mp h
    refine WP.callNI [.int q.1, .int q.2.1] dX5_add_45 lk_X5_34 rfl (Nat.le_of_ble_eq_true rfl) (by decide) (Nat.le_of_ble_eq_true rfl) rfl (TX9_hasBit h4) ?_
    refine WP.istore dX5_add_48 (by decide) rfl rfl ?_
    refine WP.aload_n dX5_add_50 rfl rfl ?_
    refine WP.getR (j := 3) dX5_add_51 rfl rfl in_X5 (by decide) wd_253 rfl ?_
    refine WP.aload_n dX5_add_54 rfl rfl ?_
    refine WP.getI (j := 5) dX5_add_55 rfl rfl in_X5 (by decide) wd_257 rfl ?_
    obtain ⟨k6, h7, h⟩ := Option.bind_eq_some_iff.mp h
    refine WP.aaldQ (base := 48) (n := 6) dX5_add_58 rfl rfl h7 ?_
    have hk6 := rows_47 h7
    refine WP.iload dX5_add_59 rfl ?_
    refine WP.iload dX5_add_61 rfl ?_
    refine WP.if_eq (tgt := 73) dX5_add_63 (by decide) (fun c8 => ?_) (fun c8 => ?_)
    · rw [if_pos c8] at h
      refine WP.ldc (v := (-2000000000)) dX5_add_73 wd_568 ?_
      refine WP.fgt [true, false, true, true, true, true, true, true] rfl ?_
      exact tX5_add_75 hk3 hk6 hK35 h
    · rw [if_neg c8] at h
      refine WP.aload_n dX5_add_66 rfl rfl ?_
      refine WP.iload dX5_add_67 rfl ?_
      obtain ⟨v9, h10, h⟩ := Option.bind_eq_some_iff.mp h
      refine WP.ialdQ dX5_add_69 hk3 h10 ?_
      refine WP.goto (tgt := 75) dX5_add_70 (by decide) ?_
      refine WP.fgt [true, false, true, true, true, true, true, true] rfl ?_
      exact tX5_add_75 hk3 hk6 hK35 h
theorem uX5_add_35 {l : Launch} {G : va_G} {tc : Nat → ClassId} {D : Nat → Nat} {N : Nat} {k3 : Nat} (hk3 : lay[k3]? = some (.inr (.inl (0, 12)))) (nn : Nat) : ∀ (z0 : Int32) (z1 : Int32) (z2 : Mm) (R : (Int32 × Mm)), lp (BX5_add_35 N k3) nn (z0, z1, z2) = some R → WP l G tc D lay (fun _ => True) RX5 cX5_add 8 rX5_add (.code yX5_add cX5_add 8 (some .int)) 35 [some (.ref 43), none, some (.int z0), some (.ref k3), some (.ref 2), some (.ref 37), some (.int z1), none] [] z2 (RetQ cX5_add (some .int) (RQI R.1 R.2)) := fun z0 z1 z2 R hh => tX5_add_35 hk3 nn (z0, z1, z2) R hh
set_option maxRecDepth 20000 in
theorem TX5_add {l : Launch} {G : va_G} {tc : Nat → ClassId} {D : Nat → Nat} {N : Nat} {x1 : Int32} {x2 : Int32} {k3 : Nat} {M : Mm} (hk3 : lay[k3]? = some (.inr (.inl (0, 12)))) {R : (Int32 × Mm)} (h : FX5_add N x1 x2 k3 M = some R) : WP l G tc D lay (fun _ => True) yX5_add.cls cX5_add 8 rX5_add (.code yX5_add cX5_add 8 (some .int)) 0 (entL 8 [.ref 43, .int x1, .int x2, .ref k3, .ref 2, .ref 37]) [] M (RetQ cX5_add (some .int) (RQI R.1 R.2)) := by
  show WP l G tc D lay (fun _ => True) RX5 cX5_add 8 rX5_add (.code yX5_add cX5_add 8 (some .int)) 0 [some (.ref 43), some (.int x1), some (.int x2), some (.ref k3), some (.ref 2), some (.ref 37), none, none] [] M (RetQ cX5_add (some .int) (RQI R.1 R.2))
  unfold FX5_add at h
  refine WP.aload_n dX5_add_0 rfl rfl ?_
  refine WP.getI (j := 5) dX5_add_1 rfl rfl in_X5 (by decide) wd_257 rfl ?_
  refine WP.bipush (v := 6) dX5_add_4 (by decide) ?_
  refine WP.icmp_lt (tgt := 12) dX5_add_6 (by decide) (fun c1 => ?_) (fun c1 => ?_)
  · rw [if_pos c1] at h
    refine WP.aload_n dX5_add_12 rfl rfl ?_
    refine WP.getR (j := 0) dX5_add_13 rfl rfl in_X5 (by decide) wd_247 rfl ?_
    refine WP.aload_n dX5_add_16 rfl rfl ?_
    refine WP.getI (j := 5) dX5_add_17 rfl rfl in_X5 (by decide) wd_257 rfl ?_
    refine WP.iload_n dX5_add_20 rfl rfl ?_
    obtain ⟨M2, h3, h⟩ := Option.bind_eq_some_iff.mp h
    refine WP.iastQ dX5_add_21 rfl h3 ?_
    refine WP.aload_n dX5_add_22 rfl rfl ?_
    refine WP.getR (j := 1) dX5_add_23 rfl rfl in_X5 (by decide) wd_249 rfl ?_
    refine WP.aload_n dX5_add_26 rfl rfl ?_
    refine WP.getI (j := 5) dX5_add_27 rfl rfl in_X5 (by decide) wd_257 rfl ?_
    refine WP.iload_n dX5_add_30 rfl rfl ?_
    obtain ⟨M4, h5, h⟩ := Option.bind_eq_some_iff.mp h
    refine WP.iastQ dX5_add_31 rfl h5 ?_
    refine WP.iconst (v := 0) dX5_add_32 (by decide) ?_
    refine WP.istore dX5_add_33 (by decide) rfl rfl ?_
    refine WP.fgt [true, false, true, true, true, true, true, false] rfl ?_
    exact uX5_add_35 hk3 N x2 0 M4 _ h
  · rw [if_neg c1] at h
    refine WP.bipush (v := (-4)) dX5_add_9 (by decide) ?_
    cases h
    exact WP.iret dX5_add_11 ⟨rfl, rfl⟩
/-! X5_unbrokenBits -/
def rX5_unbrokenBits : Room := { frames := 0, cells := 0, slots := 0, locals := 0 }
def BX5_unbrokenBits_4 (N : Nat) (M : Mm) (K4 : Int32 × Int32 × Int32 → Option Int32) (q : Int32 × Int32 × Int32) : Option Int32 :=
  (if (M.1 43 5) ≤ q.2.2 then some q.2.1 else (rdI M 44 6 q.2.2).bind fun v2 => (if v2 = q.1 then (rdI M 46 6 q.2.2).bind fun v5 => (if v5 = 0 then (rdI M 45 6 q.2.2).bind fun v8 => K4 (q.1, (q.2.1 ||| v8), (q.2.2 + 1)) else K4 (q.1, q.2.1, (q.2.2 + 1))) else K4 (q.1, q.2.1, (q.2.2 + 1))))
def FX5_unbrokenBits (N : Nat) (x1 : Int32) (M : Mm) : Option Int32 :=
  lp (BX5_unbrokenBits_4 N M) N (x1, 0, 0)
theorem eBX5_unbrokenBits_4 (N : Nat) (M : Mm) (K4 : Int32 × Int32 × Int32 → Option Int32) (q : Int32 × Int32 × Int32) : BX5_unbrokenBits_4 N M K4 q = (if (M.1 43 5) ≤ q.2.2 then some q.2.1 else (rdI M 44 6 q.2.2).bind fun v2 => (if v2 = q.1 then (rdI M 46 6 q.2.2).bind fun v5 => (if v5 = 0 then (rdI M 45 6 q.2.2).bind fun v8 => K4 (q.1, (q.2.1 ||| v8), (q.2.2 + 1)) else K4 (q.1, q.2.1, (q.2.2 + 1))) else K4 (q.1, q.2.1, (q.2.2 + 1)))) := rfl
theorem eFX5_unbrokenBits (N : Nat) (x1 : Int32) (M : Mm) : FX5_unbrokenBits N x1 M = lp (BX5_unbrokenBits_4 N M) N (x1, 0, 0) := rfl
set_option maxRecDepth 20000 in
theorem tX5_unbrokenBits_4 {l : Launch} {G : va_G} {tc : Nat → ClassId} {D : Nat → Nat} {N : Nat} {M : Mm} : ∀ (nn : Nat) (q : Int32 × Int32 × Int32) (R : Int32), lp (BX5_unbrokenBits_4 N M) nn q = some R → WP l G tc D lay (fun _ => True) RX5 cX5_unbrokenBits 4 rX5_unbrokenBits (.code yX5_unbrokenBits cX5_unbrokenBits 4 (some .int)) 4 [some (.ref 43), some (.int q.1), some (.int q.2.1), some (.int q.2.2)] [] M (RetQ cX5_unbrokenBits (some .int) (RQI R M)) := by
  refine lp_ind (fun K4 hK4q q R h => ?_)
  have hK4 : ∀ (z0 : Int32) (z1 : Int32) (z2 : Int32) (R : Int32), K4 (z0, z1, z2) = some R → WP l G tc D lay (fun _ => True) RX5 cX5_unbrokenBits 4 rX5_unbrokenBits (.code yX5_unbrokenBits cX5_unbrokenBits 4 (some .int)) 4 [some (.ref 43), some (.int z0), some (.int z1), some (.int z2)] [] M (RetQ cX5_unbrokenBits (some .int) (RQI R M)) := fun z0 z1 z2 R hh => hK4q (z0, z1, z2) R hh
  unfold BX5_unbrokenBits_4 at h
  refine WP.iload_n dX5_unbrokenBits_4 rfl rfl ?_
  refine WP.aload_n dX5_unbrokenBits_5 rfl rfl ?_
  refine WP.getI (j := 5) dX5_unbrokenBits_6 rfl rfl in_X5 (by decide) wd_257 rfl ?_
  refine WP.icmp_ge (tgt := 46) dX5_unbrokenBits_9 (by decide) (fun c1 => ?_) (fun c1 => ?_)
  · rw [if_pos c1] at h
    refine WP.iload_n dX5_unbrokenBits_46 rfl rfl ?_
    cases h
    exact WP.iret dX5_unbrokenBits_47 ⟨rfl, rfl⟩
  · rw [if_neg c1] at h
    refine WP.aload_n dX5_unbrokenBits_12 rfl rfl ?_
    refine WP.getR (j := 0) dX5_unbrokenBits_13 rfl rfl in_X5 (by decide) wd_247 rfl ?_
    refine WP.iload_n dX5_unbrokenBits_16 rfl rfl ?_
    obtain ⟨v2, h3, h⟩ := Option.bind_eq_some_iff.mp h
    refine WP.ialdQ dX5_unbrokenBits_17 rfl h3 ?_
    refine WP.iload_n dX5_unbrokenBits_18 rfl rfl ?_
    refine WP.icmp_ne (tgt := 40) dX5_unbrokenBits_19 (by decide) (fun c4 => ?_) (fun c4 => ?_)
    · rw [if_neg c4] at h
      refine WP.iinc (v := (q.2.2 + 1)) dX5_unbrokenBits_40 rfl rfl (by decide) rfl rfl ?_
      refine WP.goto (tgt := 4) dX5_unbrokenBits_43 (by decide) ?_
      refine WP.fgt [true, true, true, true] rfl ?_
      exact hK4 q.1 q.2.1 (q.2.2 + 1) _ h
    · rw [if_pos c4] at h
      refine WP.aload_n dX5_unbrokenBits_22 rfl rfl ?_
      refine WP.getR (j := 2) dX5_unbrokenBits_23 rfl rfl in_X5 (by decide) wd_251 rfl ?_
      refine WP.iload_n dX5_unbrokenBits_26 rfl rfl ?_
      obtain ⟨v5, h6, h⟩ := Option.bind_eq_some_iff.mp h
      refine WP.zaldQ dX5_unbrokenBits_27 rfl h6 ?_
      refine WP.if_ne (tgt := 40) dX5_unbrokenBits_28 (by decide) (fun c7 => ?_) (fun c7 => ?_)
      · rw [if_neg c7] at h
        refine WP.iinc (v := (q.2.2 + 1)) dX5_unbrokenBits_40 rfl rfl (by decide) rfl rfl ?_
        refine WP.goto (tgt := 4) dX5_unbrokenBits_43 (by decide) ?_
        refine WP.fgt [true, true, true, true] rfl ?_
        exact hK4 q.1 q.2.1 (q.2.2 + 1) _ h
      · rw [if_pos c7] at h
        refine WP.iload_n dX5_unbrokenBits_31 rfl rfl ?_
        refine WP.aload_n dX5_unbrokenBits_32 rfl rfl ?_
        refine WP.getR (j := 1) dX5_unbrokenBits_33 rfl rfl in_X5 (by decide) wd_249 rfl ?_
        refine WP.iload_n dX5_unbrokenBits_36 rfl rfl ?_
        obtain ⟨v8, h9, h⟩ := Option.bind_eq_some_iff.mp h
        refine WP.ialdQ dX5_unbrokenBits_37 rfl h9 ?_
        refine WP.ior dX5_unbrokenBits_38 ?_
        refine WP.istore_n dX5_unbrokenBits_39 rfl (by decide) rfl rfl ?_
        refine WP.iinc (v := (q.2.2 + 1)) dX5_unbrokenBits_40 rfl rfl (by decide) rfl rfl ?_
        refine WP.goto (tgt := 4) dX5_unbrokenBits_43 (by decide) ?_
        refine WP.fgt [true, true, true, true] rfl ?_
        exact hK4 q.1 (q.2.1 ||| v8) (q.2.2 + 1) _ h
theorem uX5_unbrokenBits_4 {l : Launch} {G : va_G} {tc : Nat → ClassId} {D : Nat → Nat} {N : Nat} {M : Mm} (nn : Nat) : ∀ (z0 : Int32) (z1 : Int32) (z2 : Int32) (R : Int32), lp (BX5_unbrokenBits_4 N M) nn (z0, z1, z2) = some R → WP l G tc D lay (fun _ => True) RX5 cX5_unbrokenBits 4 rX5_unbrokenBits (.code yX5_unbrokenBits cX5_unbrokenBits 4 (some .int)) 4 [some (.ref 43), some (.int z0), some (.int z1), some (.int z2)] [] M (RetQ cX5_unbrokenBits (some .int) (RQI R M)) := fun z0 z1 z2 R hh => tX5_unbrokenBits_4  nn (z0, z1, z2) R hh
set_option maxRecDepth 20000 in
theorem TX5_unbrokenBits {l : Launch} {G : va_G} {tc : Nat → ClassId} {D : Nat → Nat} {N : Nat} {x1 : Int32} {M : Mm} {R : Int32} (h : FX5_unbrokenBits N x1 M = some R) : WP l G tc D lay (fun _ => True) yX5_unbrokenBits.cls cX5_unbrokenBits 4 rX5_unbrokenBits (.code yX5_unbrokenBits cX5_unbrokenBits 4 (some .int)) 0 (entL 4 [.ref 43, .int x1]) [] M (RetQ cX5_unbrokenBits (some .int) (RQI R M)) := by
  show WP l G tc D lay (fun _ => True) RX5 cX5_unbrokenBits 4 rX5_unbrokenBits (.code yX5_unbrokenBits cX5_unbrokenBits 4 (some .int)) 0 [some (.ref 43), some (.int x1), none, none] [] M (RetQ cX5_unbrokenBits (some .int) (RQI R M))
  unfold FX5_unbrokenBits at h
  refine WP.iconst (v := 0) dX5_unbrokenBits_0 (by decide) ?_
  refine WP.istore_n dX5_unbrokenBits_1 rfl (by decide) rfl rfl ?_
  refine WP.iconst (v := 0) dX5_unbrokenBits_2 (by decide) ?_
  refine WP.istore_n dX5_unbrokenBits_3 rfl (by decide) rfl rfl ?_
  refine WP.fgt [true, true, true, true] rfl ?_
  exact uX5_unbrokenBits_4  N x1 0 0 _ h
/-! X5_agrees -/
def rX5_agrees : Room := { frames := 2, cells := 0, slots := 0, locals := 43 }
def BX5_agrees_3 (N : Nat) (M : Mm) (K3 : Int32 × Int32 → Option Int32) (q : Int32 × Int32) : Option Int32 :=
  (if (M.1 2 6) ≤ q.2 then some 1 else (rdI M 45 6 q.1).bind fun v2 => (FX9_hasBit v2 q.2 M).bind fun r5 => (if r5 = 0 then K3 (q.1, (q.2 + 1)) else (FX6_statusOf 37 q.2 M).bind fun r8 => (ckR 55 6 q.1).bind fun k9 => (rdI M k9 12 q.2).bind fun v11 => (if r8 = v11 then K3 (q.1, (q.2 + 1)) else some 0)))
def FX5_agrees (N : Nat) (x1 : Int32) (M : Mm) : Option Int32 :=
  lp (BX5_agrees_3 N M) N (x1, 0)
theorem eBX5_agrees_3 (N : Nat) (M : Mm) (K3 : Int32 × Int32 → Option Int32) (q : Int32 × Int32) : BX5_agrees_3 N M K3 q = (if (M.1 2 6) ≤ q.2 then some 1 else (rdI M 45 6 q.1).bind fun v2 => (FX9_hasBit v2 q.2 M).bind fun r5 => (if r5 = 0 then K3 (q.1, (q.2 + 1)) else (FX6_statusOf 37 q.2 M).bind fun r8 => (ckR 55 6 q.1).bind fun k9 => (rdI M k9 12 q.2).bind fun v11 => (if r8 = v11 then K3 (q.1, (q.2 + 1)) else some 0))) := rfl
theorem eFX5_agrees (N : Nat) (x1 : Int32) (M : Mm) : FX5_agrees N x1 M = lp (BX5_agrees_3 N M) N (x1, 0) := rfl
set_option maxRecDepth 20000 in
theorem tX5_agrees_3 {l : Launch} {G : va_G} {tc : Nat → ClassId} {D : Nat → Nat} {N : Nat} {M : Mm} : ∀ (nn : Nat) (q : Int32 × Int32) (R : Int32), lp (BX5_agrees_3 N M) nn q = some R → WP l G tc D lay (fun _ => True) RX5 cX5_agrees 5 rX5_agrees (.code yX5_agrees cX5_agrees 5 (some .boolean)) 3 [some (.ref 43), some (.int q.1), some (.ref 2), some (.ref 37), some (.int q.2)] [] M (RetQ cX5_agrees (some .boolean) (RQI R M)) := by
  refine lp_ind (fun K3 hK3q q R h => ?_)
  have hK3 : ∀ (z0 : Int32) (z1 : Int32) (R : Int32), K3 (z0, z1) = some R → WP l G tc D lay (fun _ => True) RX5 cX5_agrees 5 rX5_agrees (.code yX5_agrees cX5_agrees 5 (some .boolean)) 3 [some (.ref 43), some (.int z0), some (.ref 2), some (.ref 37), some (.int z1)] [] M (RetQ cX5_agrees (some .boolean) (RQI R M)) := fun z0 z1 R hh => hK3q (z0, z1) R hh
  unfold BX5_agrees_3 at h
  refine WP.iload dX5_agrees_3 rfl ?_
  refine WP.aload_n dX5_agrees_5 rfl rfl ?_
  refine WP.getI (j := 6) dX5_agrees_6 rfl rfl in_X0 (by decide) wd_108 rfl ?_
  refine WP.icmp_ge (tgt := 53) dX5_agrees_9 (by decide) (fun c1 => ?_) (fun c1 => ?_)
  · rw [if_pos c1] at h
    refine WP.iconst (v := 1) dX5_agrees_53 (by decide) ?_
    cases h
    exact WP.zret dX5_agrees_54 (by decide) ⟨rfl, rfl⟩
  · rw [if_neg c1] at h
    refine WP.aload_n dX5_agrees_12 rfl rfl ?_
    refine WP.getR (j := 1) dX5_agrees_13 rfl rfl in_X5 (by decide) wd_249 rfl ?_
    refine WP.iload_n dX5_agrees_16 rfl rfl ?_
    obtain ⟨v2, h3, h⟩ := Option.bind_eq_some_iff.mp h
    refine WP.ialdQ dX5_agrees_17 rfl h3 ?_
    refine WP.iload dX5_agrees_18 rfl ?_
    obtain ⟨r5, h4, h⟩ := Option.bind_eq_some_iff.mp h
    refine WP.callNI [.int v2, .int q.2] dX5_agrees_20 lk_X5_34 rfl (Nat.le_of_ble_eq_true rfl) (by decide) (Nat.le_of_ble_eq_true rfl) rfl (TX9_hasBit h4) ?_
    refine WP.if_eq (tgt := 47) dX5_agrees_23 (by decide) (fun c6 => ?_) (fun c6 => ?_)
    · rw [if_pos c6] at h
      refine WP.iinc (v := (q.2 + 1)) dX5_agrees_47 rfl rfl (by decide) rfl rfl ?_
      refine WP.goto (tgt := 3) dX5_agrees_50 (by decide) ?_
      refine WP.fgt [true, true, true, true, true] rfl ?_
      exact hK3 q.1 (q.2 + 1) _ h
    · rw [if_neg c6] at h
      refine WP.aload_n dX5_agrees_26 rfl rfl ?_
      refine WP.aload_n dX5_agrees_27 rfl rfl ?_
      refine WP.iload dX5_agrees_28 rfl ?_
      obtain ⟨r8, h7, h⟩ := Option.bind_eq_some_iff.mp h
      refine WP.callVI [.ref 2, .int q.2] dX5_agrees_30 lk_X5_39 rfl rfl rfl (Nat.le_of_ble_eq_true rfl) (by decide) (Nat.le_of_ble_eq_true rfl) rfl (TX6_statusOf (s := 37) rfl rfl rfl rfl h7) ?_
      refine WP.aload_n dX5_agrees_33 rfl rfl ?_
      refine WP.getR (j := 4) dX5_agrees_34 rfl rfl in_X5 (by decide) wd_255 rfl ?_
      refine WP.iload_n dX5_agrees_37 rfl rfl ?_
      obtain ⟨k9, h10, h⟩ := Option.bind_eq_some_iff.mp h
      refine WP.aaldQ (base := 55) (n := 6) dX5_agrees_38 rfl rfl h10 ?_
      have hk9 := rows_54 h10
      refine WP.iload dX5_agrees_39 rfl ?_
      obtain ⟨v11, h12, h⟩ := Option.bind_eq_some_iff.mp h
      refine WP.ialdQ dX5_agrees_41 hk9 h12 ?_
      refine WP.icmp_eq (tgt := 47) dX5_agrees_42 (by decide) (fun c13 => ?_) (fun c13 => ?_)
      · rw [if_pos c13] at h
        refine WP.iinc (v := (q.2 + 1)) dX5_agrees_47 rfl rfl (by decide) rfl rfl ?_
        refine WP.goto (tgt := 3) dX5_agrees_50 (by decide) ?_
        refine WP.fgt [true, true, true, true, true] rfl ?_
        exact hK3 q.1 (q.2 + 1) _ h
      · rw [if_neg c13] at h
        refine WP.iconst (v := 0) dX5_agrees_45 (by decide) ?_
        cases h
        exact WP.zret dX5_agrees_46 (by decide) ⟨rfl, rfl⟩
theorem uX5_agrees_3 {l : Launch} {G : va_G} {tc : Nat → ClassId} {D : Nat → Nat} {N : Nat} {M : Mm} (nn : Nat) : ∀ (z0 : Int32) (z1 : Int32) (R : Int32), lp (BX5_agrees_3 N M) nn (z0, z1) = some R → WP l G tc D lay (fun _ => True) RX5 cX5_agrees 5 rX5_agrees (.code yX5_agrees cX5_agrees 5 (some .boolean)) 3 [some (.ref 43), some (.int z0), some (.ref 2), some (.ref 37), some (.int z1)] [] M (RetQ cX5_agrees (some .boolean) (RQI R M)) := fun z0 z1 R hh => tX5_agrees_3  nn (z0, z1) R hh
set_option maxRecDepth 20000 in
theorem TX5_agrees {l : Launch} {G : va_G} {tc : Nat → ClassId} {D : Nat → Nat} {N : Nat} {x1 : Int32} {M : Mm} {R : Int32} (h : FX5_agrees N x1 M = some R) : WP l G tc D lay (fun _ => True) yX5_agrees.cls cX5_agrees 5 rX5_agrees (.code yX5_agrees cX5_agrees 5 (some .boolean)) 0 (entL 5 [.ref 43, .int x1, .ref 2, .ref 37]) [] M (RetQ cX5_agrees (some .boolean) (RQI R M)) := by
  show WP l G tc D lay (fun _ => True) RX5 cX5_agrees 5 rX5_agrees (.code yX5_agrees cX5_agrees 5 (some .boolean)) 0 [some (.ref 43), some (.int x1), some (.ref 2), some (.ref 37), none] [] M (RetQ cX5_agrees (some .boolean) (RQI R M))
  unfold FX5_agrees at h
  refine WP.iconst (v := 0) dX5_agrees_0 (by decide) ?_
  refine WP.istore dX5_agrees_1 (by decide) rfl rfl ?_
  refine WP.fgt [true, true, true, true, true] rfl ?_
  exact uX5_agrees_3  N x1 0 _ h
/-! X6_cut -/
def rX6_cut : Room := { frames := 0, cells := 0, slots := 0, locals := 0 }
def FX6_cut (x1 : Int64) (M : Mm) : Option Int32 :=
  (if (lg_cmp x1 1000000) ≤ 0 then (if 0 ≤ (lg_cmp x1 (-1000000)) then some x1.toInt32 else some (-1000000)) else some 1000000)
theorem eFX6_cut (x1 : Int64) (M : Mm) : FX6_cut x1 M = (if (lg_cmp x1 1000000) ≤ 0 then (if 0 ≤ (lg_cmp x1 (-1000000)) then some x1.toInt32 else some (-1000000)) else some 1000000) := rfl
set_option maxRecDepth 20000 in
theorem TX6_cut {l : Launch} {G : va_G} {tc : Nat → ClassId} {D : Nat → Nat} {x1 : Int64} {M : Mm} {R : Int32} (h : FX6_cut x1 M = some R) : WP l G tc D lay (fun _ => True) yX6_cut.cls cX6_cut 2 rX6_cut (.code yX6_cut cX6_cut 2 (some .int)) 0 (entL 2 [.long x1]) [] M (RetQ cX6_cut (some .int) (RQI R M)) := by
  show WP l G tc D lay (fun _ => True) RX6 cX6_cut 2 rX6_cut (.code yX6_cut cX6_cut 2 (some .int)) 0 [some (.long x1), none] [] M (RetQ cX6_cut (some .int) (RQI R M))
  unfold FX6_cut at h
  refine WP.lload_n dX6_cut_0 rfl rfl ?_
  refine WP.ldc2 (v := 1000000) dX6_cut_1 wd_505 ?_
  refine WP.lcmp dX6_cut_4 ?_
  refine WP.if_le (tgt := 11) dX6_cut_5 (by decide) (fun c1 => ?_) (fun c1 => ?_)
  · rw [if_pos c1] at h
    refine WP.lload_n dX6_cut_11 rfl rfl ?_
    refine WP.ldc2 (v := (-1000000)) dX6_cut_12 wd_507 ?_
    refine WP.lcmp dX6_cut_15 ?_
    refine WP.if_ge (tgt := 24) dX6_cut_16 (by decide) (fun c2 => ?_) (fun c2 => ?_)
    · rw [if_pos c2] at h
      refine WP.lload_n dX6_cut_24 rfl rfl ?_
      refine WP.l2i dX6_cut_25 ?_
      cases h
      exact WP.iret dX6_cut_26 ⟨rfl, rfl⟩
    · rw [if_neg c2] at h
      refine WP.ldc (v := (-1000000)) dX6_cut_19 wd_508 ?_
      refine WP.goto (tgt := 26) dX6_cut_21 (by decide) ?_
      cases h
      exact WP.iret dX6_cut_26 ⟨rfl, rfl⟩
  · rw [if_neg c1] at h
    refine WP.ldc (v := 1000000) dX6_cut_8 wd_506 ?_
    cases h
    exact WP.iret dX6_cut_10 ⟨rfl, rfl⟩
/-! X6_workOutPair -/
def rX6_workOutPair : Room := { frames := 1, cells := 0, slots := 0, locals := 21 }
def BX6_workOutPair_154 (t0 : Int32) (M : Mm) : Option Int32 :=
  (FX9_truth t0 M).bind fun r2 => some r2
def BX6_workOutPair_139 (t0 : Int32) (M : Mm) : Option Int32 :=
  (FX9_truth t0 M).bind fun r2 => some r2
def BX6_workOutPair_125 (t0 : Int32) (M : Mm) : Option Int32 :=
  (FX9_truth t0 M).bind fun r2 => some r2
def BX6_workOutPair_38 (a0 : Int32) (a1 : Int32) (a2 : Int32) (M : Mm) : Option Int32 :=
  (if a1 = (-2000000000) then some (-2000000000) else (if a2 = (-2000000000) then some (-2000000000) else (if a0 = 2 then (FX6_cut (a1.toInt64 + a2.toInt64) M).bind fun r5 => some r5 else (if a0 = 3 then (FX6_cut (a1.toInt64 - a2.toInt64) M).bind fun r8 => some r8 else (if a0 = 4 then (FX6_cut (a1.toInt64 * a2.toInt64) M).bind fun r11 => some r11 else (if a0 = 5 then (if a1 = a2 then BX6_workOutPair_125 1 M else BX6_workOutPair_125 0 M) else (if a0 = 6 then (if a2 ≤ a1 then BX6_workOutPair_139 0 M else BX6_workOutPair_139 1 M) else (if a0 = 7 then BX6_workOutPair_154 1 M else BX6_workOutPair_154 0 M))))))))
def BX6_workOutPair_16 (a0 : Int32) (a1 : Int32) (a2 : Int32) (M : Mm) : Option Int32 :=
  (if a0 = 8 then (FX9_isYes a1 M).bind fun r3 => (if r3 = 0 then (FX9_isYes a2 M).bind fun r6 => (if r6 = 0 then BX6_workOutPair_38 a0 a1 a2 M else some 1) else some 1) else BX6_workOutPair_38 a0 a1 a2 M)
def FX6_workOutPair (x1 : Int32) (x2 : Int32) (x3 : Int32) (M : Mm) : Option Int32 :=
  (if x1 = 7 then (if x2 = 0 then some 0 else (if x3 = 0 then some 0 else BX6_workOutPair_16 x1 x2 x3 M)) else BX6_workOutPair_16 x1 x2 x3 M)
theorem eBX6_workOutPair_154 (t0 : Int32) (M : Mm) : BX6_workOutPair_154 t0 M = (FX9_truth t0 M).bind fun r2 => some r2 := rfl
theorem eBX6_workOutPair_139 (t0 : Int32) (M : Mm) : BX6_workOutPair_139 t0 M = (FX9_truth t0 M).bind fun r2 => some r2 := rfl
theorem eBX6_workOutPair_125 (t0 : Int32) (M : Mm) : BX6_workOutPair_125 t0 M = (FX9_truth t0 M).bind fun r2 => some r2 := rfl
theorem eBX6_workOutPair_38 (a0 : Int32) (a1 : Int32) (a2 : Int32) (M : Mm) : BX6_workOutPair_38 a0 a1 a2 M = (if a1 = (-2000000000) then some (-2000000000) else (if a2 = (-2000000000) then some (-2000000000) else (if a0 = 2 then (FX6_cut (a1.toInt64 + a2.toInt64) M).bind fun r5 => some r5 else (if a0 = 3 then (FX6_cut (a1.toInt64 - a2.toInt64) M).bind fun r8 => some r8 else (if a0 = 4 then (FX6_cut (a1.toInt64 * a2.toInt64) M).bind fun r11 => some r11 else (if a0 = 5 then (if a1 = a2 then BX6_workOutPair_125 1 M else BX6_workOutPair_125 0 M) else (if a0 = 6 then (if a2 ≤ a1 then BX6_workOutPair_139 0 M else BX6_workOutPair_139 1 M) else (if a0 = 7 then BX6_workOutPair_154 1 M else BX6_workOutPair_154 0 M)))))))) := rfl
theorem eBX6_workOutPair_16 (a0 : Int32) (a1 : Int32) (a2 : Int32) (M : Mm) : BX6_workOutPair_16 a0 a1 a2 M = (if a0 = 8 then (FX9_isYes a1 M).bind fun r3 => (if r3 = 0 then (FX9_isYes a2 M).bind fun r6 => (if r6 = 0 then BX6_workOutPair_38 a0 a1 a2 M else some 1) else some 1) else BX6_workOutPair_38 a0 a1 a2 M) := rfl
theorem eFX6_workOutPair (x1 : Int32) (x2 : Int32) (x3 : Int32) (M : Mm) : FX6_workOutPair x1 x2 x3 M = (if x1 = 7 then (if x2 = 0 then some 0 else (if x3 = 0 then some 0 else BX6_workOutPair_16 x1 x2 x3 M)) else BX6_workOutPair_16 x1 x2 x3 M) := rfl
set_option maxRecDepth 20000 in
theorem tX6_workOutPair_154 {l : Launch} {G : va_G} {tc : Nat → ClassId} {D : Nat → Nat} {t0 : Int32} {M : Mm} {R : Int32} (h : BX6_workOutPair_154 t0 M = some R) : WP l G tc D lay (fun _ => True) RX6 cX6_workOutPair 3 rX6_workOutPair (.code yX6_workOutPair cX6_workOutPair 3 (some .int)) 154 [none, none, none] [.int t0] M (RetQ cX6_workOutPair (some .int) (RQI R M)) := by
  unfold BX6_workOutPair_154 at h
  obtain ⟨r2, h1, h⟩ := Option.bind_eq_some_iff.mp h
  refine WP.callNI [.int t0] dX6_workOutPair_154 lk_X6_84 rfl (Nat.le_of_ble_eq_true rfl) (by decide) (Nat.le_of_ble_eq_true rfl) rfl (TX9_truth h1) ?_
  cases h
  exact WP.iret dX6_workOutPair_157 ⟨rfl, rfl⟩
set_option maxRecDepth 20000 in
theorem tX6_workOutPair_139 {l : Launch} {G : va_G} {tc : Nat → ClassId} {D : Nat → Nat} {t0 : Int32} {M : Mm} {R : Int32} (h : BX6_workOutPair_139 t0 M = some R) : WP l G tc D lay (fun _ => True) RX6 cX6_workOutPair 3 rX6_workOutPair (.code yX6_workOutPair cX6_workOutPair 3 (some .int)) 139 [none, none, none] [.int t0] M (RetQ cX6_workOutPair (some .int) (RQI R M)) := by
  unfold BX6_workOutPair_139 at h
  obtain ⟨r2, h1, h⟩ := Option.bind_eq_some_iff.mp h
  refine WP.callNI [.int t0] dX6_workOutPair_139 lk_X6_84 rfl (Nat.le_of_ble_eq_true rfl) (by decide) (Nat.le_of_ble_eq_true rfl) rfl (TX9_truth h1) ?_
  cases h
  exact WP.iret dX6_workOutPair_142 ⟨rfl, rfl⟩
set_option maxRecDepth 20000 in
theorem tX6_workOutPair_125 {l : Launch} {G : va_G} {tc : Nat → ClassId} {D : Nat → Nat} {t0 : Int32} {M : Mm} {R : Int32} (h : BX6_workOutPair_125 t0 M = some R) : WP l G tc D lay (fun _ => True) RX6 cX6_workOutPair 3 rX6_workOutPair (.code yX6_workOutPair cX6_workOutPair 3 (some .int)) 125 [none, none, none] [.int t0] M (RetQ cX6_workOutPair (some .int) (RQI R M)) := by
  unfold BX6_workOutPair_125 at h
  obtain ⟨r2, h1, h⟩ := Option.bind_eq_some_iff.mp h
  refine WP.callNI [.int t0] dX6_workOutPair_125 lk_X6_84 rfl (Nat.le_of_ble_eq_true rfl) (by decide) (Nat.le_of_ble_eq_true rfl) rfl (TX9_truth h1) ?_
  cases h
  exact WP.iret dX6_workOutPair_128 ⟨rfl, rfl⟩
set_option maxRecDepth 20000 in
theorem tX6_workOutPair_38 {l : Launch} {G : va_G} {tc : Nat → ClassId} {D : Nat → Nat} {a0 : Int32} {a1 : Int32} {a2 : Int32} {M : Mm} {R : Int32} (h : BX6_workOutPair_38 a0 a1 a2 M = some R) : WP l G tc D lay (fun _ => True) RX6 cX6_workOutPair 3 rX6_workOutPair (.code yX6_workOutPair cX6_workOutPair 3 (some .int)) 38 [some (.int a0), some (.int a1), some (.int a2)] [] M (RetQ cX6_workOutPair (some .int) (RQI R M)) := by
  unfold BX6_workOutPair_38 at h
  refine WP.iload_n dX6_workOutPair_38 rfl rfl ?_
  refine WP.ldc (v := (-2000000000)) dX6_workOutPair_39 wd_494 ?_
  refine WP.icmp_eq (tgt := 50) dX6_workOutPair_41 (by decide) (fun c1 => ?_) (fun c1 => ?_)
  · rw [if_pos c1] at h
    refine WP.ldc (v := (-2000000000)) dX6_workOutPair_50 wd_494 ?_
    cases h
    exact WP.iret dX6_workOutPair_52 ⟨rfl, rfl⟩
  · rw [if_neg c1] at h
    refine WP.iload_n dX6_workOutPair_44 rfl rfl ?_
    refine WP.ldc (v := (-2000000000)) dX6_workOutPair_45 wd_494 ?_
    refine WP.icmp_ne (tgt := 53) dX6_workOutPair_47 (by decide) (fun c2 => ?_) (fun c2 => ?_)
    · rw [if_neg c2] at h
      refine WP.iload_n dX6_workOutPair_53 rfl rfl ?_
      by_cases c3 : a0 = 2
      · rw [if_pos c3] at h
        refine WP.tbl (off := 34) (tgt := 88) dX6_workOutPair_54 (by rw [c3]; decide) (by decide) ?_
        refine WP.iload_n dX6_workOutPair_88 rfl rfl ?_
        refine WP.i2l dX6_workOutPair_89 ?_
        refine WP.iload_n dX6_workOutPair_90 rfl rfl ?_
        refine WP.i2l dX6_workOutPair_91 ?_
        refine WP.ladd dX6_workOutPair_92 ?_
        obtain ⟨r5, h4, h⟩ := Option.bind_eq_some_iff.mp h
        refine WP.callSI [.long (a1.toInt64 + a2.toInt64)] dX6_workOutPair_93 lk_X6_98 rfl (Nat.le_of_ble_eq_true rfl) (by decide) (Nat.le_of_ble_eq_true rfl) rfl (TX6_cut h4) ?_
        cases h
        exact WP.iret dX6_workOutPair_96 ⟨rfl, rfl⟩
      · rw [if_neg c3] at h
        by_cases c6 : a0 = 3
        · rw [if_pos c6] at h
          refine WP.tbl (off := 43) (tgt := 97) dX6_workOutPair_54 (by rw [c6]; decide) (by decide) ?_
          refine WP.iload_n dX6_workOutPair_97 rfl rfl ?_
          refine WP.i2l dX6_workOutPair_98 ?_
          refine WP.iload_n dX6_workOutPair_99 rfl rfl ?_
          refine WP.i2l dX6_workOutPair_100 ?_
          refine WP.lsub dX6_workOutPair_101 ?_
          obtain ⟨r8, h7, h⟩ := Option.bind_eq_some_iff.mp h
          refine WP.callSI [.long (a1.toInt64 - a2.toInt64)] dX6_workOutPair_102 lk_X6_98 rfl (Nat.le_of_ble_eq_true rfl) (by decide) (Nat.le_of_ble_eq_true rfl) rfl (TX6_cut h7) ?_
          cases h
          exact WP.iret dX6_workOutPair_105 ⟨rfl, rfl⟩
        · rw [if_neg c6] at h
          by_cases c9 : a0 = 4
          · rw [if_pos c9] at h
            refine WP.tbl (off := 52) (tgt := 106) dX6_workOutPair_54 (by rw [c9]; decide) (by decide) ?_
            refine WP.iload_n dX6_workOutPair_106 rfl rfl ?_
            refine WP.i2l dX6_workOutPair_107 ?_
            refine WP.iload_n dX6_workOutPair_108 rfl rfl ?_
            refine WP.i2l dX6_workOutPair_109 ?_
            refine WP.lmul dX6_workOutPair_110 ?_
            obtain ⟨r11, h10, h⟩ := Option.bind_eq_some_iff.mp h
            refine WP.callSI [.long (a1.toInt64 * a2.toInt64)] dX6_workOutPair_111 lk_X6_98 rfl (Nat.le_of_ble_eq_true rfl) (by decide) (Nat.le_of_ble_eq_true rfl) rfl (TX6_cut h10) ?_
            cases h
            exact WP.iret dX6_workOutPair_114 ⟨rfl, rfl⟩
          · rw [if_neg c9] at h
            by_cases c12 : a0 = 5
            · rw [if_pos c12] at h
              refine WP.tbl (off := 61) (tgt := 115) dX6_workOutPair_54 (by rw [c12]; decide) (by decide) ?_
              refine WP.iload_n dX6_workOutPair_115 rfl rfl ?_
              refine WP.iload_n dX6_workOutPair_116 rfl rfl ?_
              refine WP.icmp_ne (tgt := 124) dX6_workOutPair_117 (by decide) (fun c13 => ?_) (fun c13 => ?_)
              · rw [if_neg c13] at h
                refine WP.iconst (v := 0) dX6_workOutPair_124 (by decide) ?_
                refine WP.fgt [false, false, false] rfl ?_
                exact tX6_workOutPair_125  h
              · rw [if_pos c13] at h
                refine WP.iconst (v := 1) dX6_workOutPair_120 (by decide) ?_
                refine WP.goto (tgt := 125) dX6_workOutPair_121 (by decide) ?_
                refine WP.fgt [false, false, false] rfl ?_
                exact tX6_workOutPair_125  h
            · rw [if_neg c12] at h
              by_cases c14 : a0 = 6
              · rw [if_pos c14] at h
                refine WP.tbl (off := 75) (tgt := 129) dX6_workOutPair_54 (by rw [c14]; decide) (by decide) ?_
                refine WP.iload_n dX6_workOutPair_129 rfl rfl ?_
                refine WP.iload_n dX6_workOutPair_130 rfl rfl ?_
                refine WP.icmp_ge (tgt := 138) dX6_workOutPair_131 (by decide) (fun c15 => ?_) (fun c15 => ?_)
                · rw [if_pos c15] at h
                  refine WP.iconst (v := 0) dX6_workOutPair_138 (by decide) ?_
                  refine WP.fgt [false, false, false] rfl ?_
                  exact tX6_workOutPair_139  h
                · rw [if_neg c15] at h
                  refine WP.iconst (v := 1) dX6_workOutPair_134 (by decide) ?_
                  refine WP.goto (tgt := 139) dX6_workOutPair_135 (by decide) ?_
                  refine WP.fgt [false, false, false] rfl ?_
                  exact tX6_workOutPair_139  h
              · rw [if_neg c14] at h
                refine WP.tbl (off := 89) (tgt := 143) dX6_workOutPair_54 (by
                    have n2 := lv_neT (k := 2) (a := 2) (fun z => c3 (z)) (by decide)
                    have n3 := lv_neT (k := 3) (a := 3) (fun z => c6 (z)) (by decide)
                    have n4 := lv_neT (k := 4) (a := 4) (fun z => c9 (z)) (by decide)
                    have n5 := lv_neT (k := 5) (a := 5) (fun z => c12 (z)) (by decide)
                    have n6 := lv_neT (k := 6) (a := 6) (fun z => c14 (z)) (by decide)
                    exact swT_def (by omega)) (by decide) ?_
                refine WP.iload_n dX6_workOutPair_143 rfl rfl ?_
                refine WP.bipush (v := 7) dX6_workOutPair_144 (by decide) ?_
                refine WP.icmp_ne (tgt := 153) dX6_workOutPair_146 (by decide) (fun c16 => ?_) (fun c16 => ?_)
                · rw [if_neg c16] at h
                  refine WP.iconst (v := 0) dX6_workOutPair_153 (by decide) ?_
                  refine WP.fgt [false, false, false] rfl ?_
                  exact tX6_workOutPair_154  h
                · rw [if_pos c16] at h
                  refine WP.iconst (v := 1) dX6_workOutPair_149 (by decide) ?_
                  refine WP.goto (tgt := 154) dX6_workOutPair_150 (by decide) ?_
                  refine WP.fgt [false, false, false] rfl ?_
                  exact tX6_workOutPair_154  h
    · rw [if_pos c2] at h
      refine WP.ldc (v := (-2000000000)) dX6_workOutPair_50 wd_494 ?_
      cases h
      exact WP.iret dX6_workOutPair_52 ⟨rfl, rfl⟩
set_option maxRecDepth 20000 in
theorem tX6_workOutPair_16 {l : Launch} {G : va_G} {tc : Nat → ClassId} {D : Nat → Nat} {a0 : Int32} {a1 : Int32} {a2 : Int32} {M : Mm} {R : Int32} (h : BX6_workOutPair_16 a0 a1 a2 M = some R) : WP l G tc D lay (fun _ => True) RX6 cX6_workOutPair 3 rX6_workOutPair (.code yX6_workOutPair cX6_workOutPair 3 (some .int)) 16 [some (.int a0), some (.int a1), some (.int a2)] [] M (RetQ cX6_workOutPair (some .int) (RQI R M)) := by
  unfold BX6_workOutPair_16 at h
  refine WP.iload_n dX6_workOutPair_16 rfl rfl ?_
  refine WP.bipush (v := 8) dX6_workOutPair_17 (by decide) ?_
  refine WP.icmp_ne (tgt := 38) dX6_workOutPair_19 (by decide) (fun c1 => ?_) (fun c1 => ?_)
  · rw [if_neg c1] at h
    refine WP.fgt [true, true, true] rfl ?_
    exact tX6_workOutPair_38  h
  · rw [if_pos c1] at h
    refine WP.iload_n dX6_workOutPair_22 rfl rfl ?_
    obtain ⟨r3, h2, h⟩ := Option.bind_eq_some_iff.mp h
    refine WP.callNI [.int a1] dX6_workOutPair_23 lk_X6_49 rfl (Nat.le_of_ble_eq_true rfl) (by decide) (Nat.le_of_ble_eq_true rfl) rfl (TX9_isYes h2) ?_
    refine WP.if_ne (tgt := 36) dX6_workOutPair_26 (by decide) (fun c4 => ?_) (fun c4 => ?_)
    · rw [if_neg c4] at h
      refine WP.iconst (v := 1) dX6_workOutPair_36 (by decide) ?_
      cases h
      exact WP.iret dX6_workOutPair_37 ⟨rfl, rfl⟩
    · rw [if_pos c4] at h
      refine WP.iload_n dX6_workOutPair_29 rfl rfl ?_
      obtain ⟨r6, h5, h⟩ := Option.bind_eq_some_iff.mp h
      refine WP.callNI [.int a2] dX6_workOutPair_30 lk_X6_49 rfl (Nat.le_of_ble_eq_true rfl) (by decide) (Nat.le_of_ble_eq_true rfl) rfl (TX9_isYes h5) ?_
      refine WP.if_eq (tgt := 38) dX6_workOutPair_33 (by decide) (fun c7 => ?_) (fun c7 => ?_)
      · rw [if_pos c7] at h
        refine WP.fgt [true, true, true] rfl ?_
        exact tX6_workOutPair_38  h
      · rw [if_neg c7] at h
        refine WP.iconst (v := 1) dX6_workOutPair_36 (by decide) ?_
        cases h
        exact WP.iret dX6_workOutPair_37 ⟨rfl, rfl⟩
set_option maxRecDepth 20000 in
theorem TX6_workOutPair {l : Launch} {G : va_G} {tc : Nat → ClassId} {D : Nat → Nat} {x1 : Int32} {x2 : Int32} {x3 : Int32} {M : Mm} {R : Int32} (h : FX6_workOutPair x1 x2 x3 M = some R) : WP l G tc D lay (fun _ => True) yX6_workOutPair.cls cX6_workOutPair 3 rX6_workOutPair (.code yX6_workOutPair cX6_workOutPair 3 (some .int)) 0 (entL 3 [.int x1, .int x2, .int x3]) [] M (RetQ cX6_workOutPair (some .int) (RQI R M)) := by
  show WP l G tc D lay (fun _ => True) RX6 cX6_workOutPair 3 rX6_workOutPair (.code yX6_workOutPair cX6_workOutPair 3 (some .int)) 0 [some (.int x1), some (.int x2), some (.int x3)] [] M (RetQ cX6_workOutPair (some .int) (RQI R M))
  unfold FX6_workOutPair at h
  refine WP.iload_n dX6_workOutPair_0 rfl rfl ?_
  refine WP.bipush (v := 7) dX6_workOutPair_1 (by decide) ?_
  refine WP.icmp_ne (tgt := 16) dX6_workOutPair_3 (by decide) (fun c1 => ?_) (fun c1 => ?_)
  · rw [if_neg c1] at h
    refine WP.fgt [true, true, true] rfl ?_
    exact tX6_workOutPair_16  h
  · rw [if_pos c1] at h
    refine WP.iload_n dX6_workOutPair_6 rfl rfl ?_
    refine WP.if_eq (tgt := 14) dX6_workOutPair_7 (by decide) (fun c2 => ?_) (fun c2 => ?_)
    · rw [if_pos c2] at h
      refine WP.iconst (v := 0) dX6_workOutPair_14 (by decide) ?_
      cases h
      exact WP.iret dX6_workOutPair_15 ⟨rfl, rfl⟩
    · rw [if_neg c2] at h
      refine WP.iload_n dX6_workOutPair_10 rfl rfl ?_
      refine WP.if_ne (tgt := 16) dX6_workOutPair_11 (by decide) (fun c3 => ?_) (fun c3 => ?_)
      · rw [if_neg c3] at h
        refine WP.fgt [true, true, true] rfl ?_
        exact tX6_workOutPair_16  h
      · rw [if_pos c3] at h
        refine WP.iconst (v := 0) dX6_workOutPair_14 (by decide) ?_
        cases h
        exact WP.iret dX6_workOutPair_15 ⟨rfl, rfl⟩
/-! X6_workOut -/
def rX6_workOut : Room := { frames := 2, cells := 0, slots := 0, locals := 43 }
def BX6_workOut_135 (s : Nat) (t0 : Int32) (M : Mm) : Option Int32 :=
  (FX9_truth t0 M).bind fun r2 => some r2
def BX6_workOut_101 (s : Nat) (t0 : Int32) (M : Mm) : Option Int32 :=
  (FX9_truth t0 M).bind fun r2 => some r2
def FX6_workOut (s : Nat) (x2 : Int32) (M : Mm) : Option Int32 :=
  (rdI M 23 50 x2).bind fun v1 => (rdI M 22 50 x2).bind fun v3 => (if v3 = 0 then some v1 else (if v3 = 1 then (rdI M (s + 3) 12 v1).bind fun v7 => some v7 else (if v3 = 9 then (rdI M (s + 1) 50 v1).bind fun v10 => (if v10 = (-2000000000) then some (-2000000000) else (rdI M (s + 1) 50 v1).bind fun v13 => (if v13 = 0 then BX6_workOut_135 s 1 M else BX6_workOut_135 s 0 M)) else (if v3 = 10 then (rdI M (s + 3) 12 v1).bind fun v17 => (if v17 = (-2000000000) then BX6_workOut_101 s 0 M else BX6_workOut_101 s 1 M) else (if v3 = 11 then (rdI M (s + 1) 50 v1).bind fun v21 => (if v21 = (-2000000000) then some (-2000000000) else (rdI M (s + 1) 50 v1).bind fun v24 => (if v24 = 0 then (rdI M 25 50 x2).bind fun v27 => (rdI M (s + 1) 50 v27).bind fun v29 => some v29 else (rdI M 24 50 x2).bind fun v31 => (rdI M (s + 1) 50 v31).bind fun v33 => some v33)) else (rdI M 22 50 x2).bind fun v35 => (rdI M (s + 1) 50 v1).bind fun v37 => (rdI M 24 50 x2).bind fun v39 => (rdI M (s + 1) 50 v39).bind fun v41 => (FX6_workOutPair v35 v37 v41 M).bind fun r44 => some r44)))))
theorem eBX6_workOut_135 (s : Nat) (t0 : Int32) (M : Mm) : BX6_workOut_135 s t0 M = (FX9_truth t0 M).bind fun r2 => some r2 := rfl
theorem eBX6_workOut_101 (s : Nat) (t0 : Int32) (M : Mm) : BX6_workOut_101 s t0 M = (FX9_truth t0 M).bind fun r2 => some r2 := rfl
theorem eFX6_workOut (s : Nat) (x2 : Int32) (M : Mm) : FX6_workOut s x2 M = (rdI M 23 50 x2).bind fun v1 => (rdI M 22 50 x2).bind fun v3 => (if v3 = 0 then some v1 else (if v3 = 1 then (rdI M (s + 3) 12 v1).bind fun v7 => some v7 else (if v3 = 9 then (rdI M (s + 1) 50 v1).bind fun v10 => (if v10 = (-2000000000) then some (-2000000000) else (rdI M (s + 1) 50 v1).bind fun v13 => (if v13 = 0 then BX6_workOut_135 s 1 M else BX6_workOut_135 s 0 M)) else (if v3 = 10 then (rdI M (s + 3) 12 v1).bind fun v17 => (if v17 = (-2000000000) then BX6_workOut_101 s 0 M else BX6_workOut_101 s 1 M) else (if v3 = 11 then (rdI M (s + 1) 50 v1).bind fun v21 => (if v21 = (-2000000000) then some (-2000000000) else (rdI M (s + 1) 50 v1).bind fun v24 => (if v24 = 0 then (rdI M 25 50 x2).bind fun v27 => (rdI M (s + 1) 50 v27).bind fun v29 => some v29 else (rdI M 24 50 x2).bind fun v31 => (rdI M (s + 1) 50 v31).bind fun v33 => some v33)) else (rdI M 22 50 x2).bind fun v35 => (rdI M (s + 1) 50 v1).bind fun v37 => (rdI M 24 50 x2).bind fun v39 => (rdI M (s + 1) 50 v39).bind fun v41 => (FX6_workOutPair v35 v37 v41 M).bind fun r44 => some r44))))) := rfl
set_option maxRecDepth 20000 in
theorem tX6_workOut_135 {l : Launch} {G : va_G} {tc : Nat → ClassId} {D : Nat → Nat} {s : Nat} {t0 : Int32} {M : Mm} {R : Int32} (hs : lay[s]? = some (.inl (6, [some (s + 1), some (s + 2), some (s + 3)]))) (hs1 : lay[s + 1]? = some (.inr (.inl (0, 50)))) (hs2 : lay[s + 2]? = some (.inr (.inl (1, 12)))) (hs3 : lay[s + 3]? = some (.inr (.inl (0, 12)))) (h : BX6_workOut_135 s t0 M = some R) : WP l G tc D lay (fun _ => True) RX6 cX6_workOut 4 rX6_workOut (.code yX6_workOut cX6_workOut 4 (some .int)) 135 [none, none, none, none] [.int t0] M (RetQ cX6_workOut (some .int) (RQI R M)) := by
  unfold BX6_workOut_135 at h
  obtain ⟨r2, h1, h⟩ := Option.bind_eq_some_iff.mp h
  refine WP.callNI [.int t0] dX6_workOut_135 lk_X6_84 rfl (Nat.le_of_ble_eq_true rfl) (by decide) (Nat.le_of_ble_eq_true rfl) rfl (TX9_truth h1) ?_
  cases h
  exact WP.iret dX6_workOut_138 ⟨rfl, rfl⟩
set_option maxRecDepth 20000 in
theorem tX6_workOut_101 {l : Launch} {G : va_G} {tc : Nat → ClassId} {D : Nat → Nat} {s : Nat} {t0 : Int32} {M : Mm} {R : Int32} (hs : lay[s]? = some (.inl (6, [some (s + 1), some (s + 2), some (s + 3)]))) (hs1 : lay[s + 1]? = some (.inr (.inl (0, 50)))) (hs2 : lay[s + 2]? = some (.inr (.inl (1, 12)))) (hs3 : lay[s + 3]? = some (.inr (.inl (0, 12)))) (h : BX6_workOut_101 s t0 M = some R) : WP l G tc D lay (fun _ => True) RX6 cX6_workOut 4 rX6_workOut (.code yX6_workOut cX6_workOut 4 (some .int)) 101 [none, none, none, none] [.int t0] M (RetQ cX6_workOut (some .int) (RQI R M)) := by
  unfold BX6_workOut_101 at h
  obtain ⟨r2, h1, h⟩ := Option.bind_eq_some_iff.mp h
  refine WP.callNI [.int t0] dX6_workOut_101 lk_X6_84 rfl (Nat.le_of_ble_eq_true rfl) (by decide) (Nat.le_of_ble_eq_true rfl) rfl (TX9_truth h1) ?_
  cases h
  exact WP.iret dX6_workOut_104 ⟨rfl, rfl⟩
set_option maxRecDepth 20000 in
theorem TX6_workOut {l : Launch} {G : va_G} {tc : Nat → ClassId} {D : Nat → Nat} {s : Nat} {x2 : Int32} {M : Mm} (hs : lay[s]? = some (.inl (6, [some (s + 1), some (s + 2), some (s + 3)]))) (hs1 : lay[s + 1]? = some (.inr (.inl (0, 50)))) (hs2 : lay[s + 2]? = some (.inr (.inl (1, 12)))) (hs3 : lay[s + 3]? = some (.inr (.inl (0, 12)))) {R : Int32} (h : FX6_workOut s x2 M = some R) : WP l G tc D lay (fun _ => True) yX6_workOut.cls cX6_workOut 4 rX6_workOut (.code yX6_workOut cX6_workOut 4 (some .int)) 0 (entL 4 [.ref s, .ref 21, .int x2]) [] M (RetQ cX6_workOut (some .int) (RQI R M)) := by
  show WP l G tc D lay (fun _ => True) RX6 cX6_workOut 4 rX6_workOut (.code yX6_workOut cX6_workOut 4 (some .int)) 0 [some (.ref s), some (.ref 21), some (.int x2), none] [] M (RetQ cX6_workOut (some .int) (RQI R M))
  unfold FX6_workOut at h
  refine WP.aload_n dX6_workOut_0 rfl rfl ?_
  refine WP.getR (j := 1) dX6_workOut_1 rfl rfl in_X3 (by decide) wd_136 rfl ?_
  refine WP.iload_n dX6_workOut_4 rfl rfl ?_
  obtain ⟨v1, h2, h⟩ := Option.bind_eq_some_iff.mp h
  refine WP.ialdQ dX6_workOut_5 rfl h2 ?_
  refine WP.istore_n dX6_workOut_6 rfl (by decide) rfl rfl ?_
  refine WP.aload_n dX6_workOut_7 rfl rfl ?_
  refine WP.getR (j := 0) dX6_workOut_8 rfl rfl in_X3 (by decide) wd_134 rfl ?_
  refine WP.iload_n dX6_workOut_11 rfl rfl ?_
  obtain ⟨v3, h4, h⟩ := Option.bind_eq_some_iff.mp h
  refine WP.ialdQ dX6_workOut_12 rfl h4 ?_
  by_cases c5 : v3 = 0
  · rw [if_pos c5] at h
    refine WP.tbl (off := 63) (tgt := 76) dX6_workOut_13 (by rw [c5]; decide) (by decide) ?_
    refine WP.iload_n dX6_workOut_76 rfl rfl ?_
    cases h
    exact WP.iret dX6_workOut_77 ⟨rfl, rfl⟩
  · rw [if_neg c5] at h
    by_cases c6 : v3 = 1
    · rw [if_pos c6] at h
      refine WP.tbl (off := 65) (tgt := 78) dX6_workOut_13 (by rw [c6]; decide) (by decide) ?_
      refine WP.aload_n dX6_workOut_78 rfl rfl ?_
      refine WP.getR (j := 2) dX6_workOut_79 hs rfl in_X6 (by decide) wd_216 rfl ?_
      refine WP.iload_n dX6_workOut_82 rfl rfl ?_
      obtain ⟨v7, h8, h⟩ := Option.bind_eq_some_iff.mp h
      refine WP.ialdQ dX6_workOut_83 hs3 h8 ?_
      cases h
      exact WP.iret dX6_workOut_84 ⟨rfl, rfl⟩
    · rw [if_neg c6] at h
      by_cases c9 : v3 = 9
      · rw [if_pos c9] at h
        refine WP.tbl (off := 92) (tgt := 105) dX6_workOut_13 (by rw [c9]; decide) (by decide) ?_
        refine WP.aload_n dX6_workOut_105 rfl rfl ?_
        refine WP.getR (j := 0) dX6_workOut_106 hs rfl in_X6 (by decide) wd_212 rfl ?_
        refine WP.iload_n dX6_workOut_109 rfl rfl ?_
        obtain ⟨v10, h11, h⟩ := Option.bind_eq_some_iff.mp h
        refine WP.ialdQ dX6_workOut_110 hs1 h11 ?_
        refine WP.ldc (v := (-2000000000)) dX6_workOut_111 wd_494 ?_
        refine WP.icmp_ne (tgt := 121) dX6_workOut_113 (by decide) (fun c12 => ?_) (fun c12 => ?_)
        · rw [if_neg c12] at h
          refine WP.aload_n dX6_workOut_121 rfl rfl ?_
          refine WP.getR (j := 0) dX6_workOut_122 hs rfl in_X6 (by decide) wd_212 rfl ?_
          refine WP.iload_n dX6_workOut_125 rfl rfl ?_
          obtain ⟨v13, h14, h⟩ := Option.bind_eq_some_iff.mp h
          refine WP.ialdQ dX6_workOut_126 hs1 h14 ?_
          refine WP.if_ne (tgt := 134) dX6_workOut_127 (by decide) (fun c15 => ?_) (fun c15 => ?_)
          · rw [if_neg c15] at h
            refine WP.iconst (v := 0) dX6_workOut_134 (by decide) ?_
            refine WP.fgt [false, false, false, false] rfl ?_
            exact tX6_workOut_135 hs hs1 hs2 hs3 h
          · rw [if_pos c15] at h
            refine WP.iconst (v := 1) dX6_workOut_130 (by decide) ?_
            refine WP.goto (tgt := 135) dX6_workOut_131 (by decide) ?_
            refine WP.fgt [false, false, false, false] rfl ?_
            exact tX6_workOut_135 hs hs1 hs2 hs3 h
        · rw [if_pos c12] at h
          refine WP.ldc (v := (-2000000000)) dX6_workOut_116 wd_494 ?_
          refine WP.goto (tgt := 138) dX6_workOut_118 (by decide) ?_
          cases h
          exact WP.iret dX6_workOut_138 ⟨rfl, rfl⟩
      · rw [if_neg c9] at h
        by_cases c16 : v3 = 10
        · rw [if_pos c16] at h
          refine WP.tbl (off := 72) (tgt := 85) dX6_workOut_13 (by rw [c16]; decide) (by decide) ?_
          refine WP.aload_n dX6_workOut_85 rfl rfl ?_
          refine WP.getR (j := 2) dX6_workOut_86 hs rfl in_X6 (by decide) wd_216 rfl ?_
          refine WP.iload_n dX6_workOut_89 rfl rfl ?_
          obtain ⟨v17, h18, h⟩ := Option.bind_eq_some_iff.mp h
          refine WP.ialdQ dX6_workOut_90 hs3 h18 ?_
          refine WP.ldc (v := (-2000000000)) dX6_workOut_91 wd_494 ?_
          refine WP.icmp_eq (tgt := 100) dX6_workOut_93 (by decide) (fun c19 => ?_) (fun c19 => ?_)
          · rw [if_pos c19] at h
            refine WP.iconst (v := 0) dX6_workOut_100 (by decide) ?_
            refine WP.fgt [false, false, false, false] rfl ?_
            exact tX6_workOut_101 hs hs1 hs2 hs3 h
          · rw [if_neg c19] at h
            refine WP.iconst (v := 1) dX6_workOut_96 (by decide) ?_
            refine WP.goto (tgt := 101) dX6_workOut_97 (by decide) ?_
            refine WP.fgt [false, false, false, false] rfl ?_
            exact tX6_workOut_101 hs hs1 hs2 hs3 h
        · rw [if_neg c16] at h
          by_cases c20 : v3 = 11
          · rw [if_pos c20] at h
            refine WP.tbl (off := 126) (tgt := 139) dX6_workOut_13 (by rw [c20]; decide) (by decide) ?_
            refine WP.aload_n dX6_workOut_139 rfl rfl ?_
            refine WP.getR (j := 0) dX6_workOut_140 hs rfl in_X6 (by decide) wd_212 rfl ?_
            refine WP.iload_n dX6_workOut_143 rfl rfl ?_
            obtain ⟨v21, h22, h⟩ := Option.bind_eq_some_iff.mp h
            refine WP.ialdQ dX6_workOut_144 hs1 h22 ?_
            refine WP.ldc (v := (-2000000000)) dX6_workOut_145 wd_494 ?_
            refine WP.icmp_ne (tgt := 155) dX6_workOut_147 (by decide) (fun c23 => ?_) (fun c23 => ?_)
            · rw [if_neg c23] at h
              refine WP.aload_n dX6_workOut_155 rfl rfl ?_
              refine WP.getR (j := 0) dX6_workOut_156 hs rfl in_X6 (by decide) wd_212 rfl ?_
              refine WP.aload_n dX6_workOut_159 rfl rfl ?_
              refine WP.getR (j := 0) dX6_workOut_160 hs rfl in_X6 (by decide) wd_212 rfl ?_
              refine WP.iload_n dX6_workOut_163 rfl rfl ?_
              obtain ⟨v24, h25, h⟩ := Option.bind_eq_some_iff.mp h
              refine WP.ialdQ dX6_workOut_164 hs1 h25 ?_
              refine WP.if_eq (tgt := 177) dX6_workOut_165 (by decide) (fun c26 => ?_) (fun c26 => ?_)
              · rw [if_pos c26] at h
                refine WP.aload_n dX6_workOut_177 rfl rfl ?_
                refine WP.getR (j := 3) dX6_workOut_178 rfl rfl in_X3 (by decide) wd_140 rfl ?_
                refine WP.iload_n dX6_workOut_181 rfl rfl ?_
                obtain ⟨v27, h28, h⟩ := Option.bind_eq_some_iff.mp h
                refine WP.ialdQ dX6_workOut_182 rfl h28 ?_
                obtain ⟨v29, h30, h⟩ := Option.bind_eq_some_iff.mp h
                refine WP.ialdQ dX6_workOut_183 hs1 h30 ?_
                cases h
                exact WP.iret dX6_workOut_184 ⟨rfl, rfl⟩
              · rw [if_neg c26] at h
                refine WP.aload_n dX6_workOut_168 rfl rfl ?_
                refine WP.getR (j := 2) dX6_workOut_169 rfl rfl in_X3 (by decide) wd_138 rfl ?_
                refine WP.iload_n dX6_workOut_172 rfl rfl ?_
                obtain ⟨v31, h32, h⟩ := Option.bind_eq_some_iff.mp h
                refine WP.ialdQ dX6_workOut_173 rfl h32 ?_
                refine WP.goto (tgt := 183) dX6_workOut_174 (by decide) ?_
                obtain ⟨v33, h34, h⟩ := Option.bind_eq_some_iff.mp h
                refine WP.ialdQ dX6_workOut_183 hs1 h34 ?_
                cases h
                exact WP.iret dX6_workOut_184 ⟨rfl, rfl⟩
            · rw [if_pos c23] at h
              refine WP.ldc (v := (-2000000000)) dX6_workOut_150 wd_494 ?_
              refine WP.goto (tgt := 184) dX6_workOut_152 (by decide) ?_
              cases h
              exact WP.iret dX6_workOut_184 ⟨rfl, rfl⟩
          · rw [if_neg c20] at h
            refine WP.tbl (off := 172) (tgt := 185) dX6_workOut_13 (by
                have n0 := lv_neT (k := 0) (a := 0) (fun z => c5 (z)) (by decide)
                have n1 := lv_neT (k := 1) (a := 1) (fun z => c6 (z)) (by decide)
                have n9 := lv_neT (k := 9) (a := 9) (fun z => c9 (z)) (by decide)
                have n10 := lv_neT (k := 10) (a := 10) (fun z => c16 (z)) (by decide)
                have n11 := lv_neT (k := 11) (a := 11) (fun z => c20 (z)) (by decide)
                exact swT_def2  (fun hlo hhi => by
                  have hh : v3.toInt = 2 ∨ v3.toInt = 3 ∨ v3.toInt = 4 ∨ v3.toInt = 5 ∨ v3.toInt = 6 ∨ v3.toInt = 7 ∨ v3.toInt = 8 := by omega
                  rcases hh with hh | hh | hh | hh | hh | hh | hh <;> (rw [hh]; decide))) (by decide) ?_
            refine WP.aload_n dX6_workOut_185 rfl rfl ?_
            refine WP.getR (j := 0) dX6_workOut_186 rfl rfl in_X3 (by decide) wd_134 rfl ?_
            refine WP.iload_n dX6_workOut_189 rfl rfl ?_
            obtain ⟨v35, h36, h⟩ := Option.bind_eq_some_iff.mp h
            refine WP.ialdQ dX6_workOut_190 rfl h36 ?_
            refine WP.aload_n dX6_workOut_191 rfl rfl ?_
            refine WP.getR (j := 0) dX6_workOut_192 hs rfl in_X6 (by decide) wd_212 rfl ?_
            refine WP.iload_n dX6_workOut_195 rfl rfl ?_
            obtain ⟨v37, h38, h⟩ := Option.bind_eq_some_iff.mp h
            refine WP.ialdQ dX6_workOut_196 hs1 h38 ?_
            refine WP.aload_n dX6_workOut_197 rfl rfl ?_
            refine WP.getR (j := 0) dX6_workOut_198 hs rfl in_X6 (by decide) wd_212 rfl ?_
            refine WP.aload_n dX6_workOut_201 rfl rfl ?_
            refine WP.getR (j := 2) dX6_workOut_202 rfl rfl in_X3 (by decide) wd_138 rfl ?_
            refine WP.iload_n dX6_workOut_205 rfl rfl ?_
            obtain ⟨v39, h40, h⟩ := Option.bind_eq_some_iff.mp h
            refine WP.ialdQ dX6_workOut_206 rfl h40 ?_
            obtain ⟨v41, h42, h⟩ := Option.bind_eq_some_iff.mp h
            refine WP.ialdQ dX6_workOut_207 hs1 h42 ?_
            obtain ⟨r44, h43, h⟩ := Option.bind_eq_some_iff.mp h
            refine WP.callSI [.int v35, .int v37, .int v41] dX6_workOut_208 lk_X6_94 rfl (Nat.le_of_ble_eq_true rfl) (by decide) (Nat.le_of_ble_eq_true rfl) rfl (TX6_workOutPair h43) ?_
            cases h
            exact WP.iret dX6_workOut_211 ⟨rfl, rfl⟩
/-! X6_takeField -/
def rX6_takeField : Room := { frames := 1, cells := 0, slots := 0, locals := 22 }
def BX6_takeField_68 (s : Nat) (k2 : Nat) (a3 : Int32) (t0 : Int32) (M : Mm) : Option Mm :=
  (rdI M (s + 2) 12 a3).bind fun v1 => (if v1 = 0 then (wrI M (s + 3) 12 a3 (-2000000000)).bind fun M4 => some M4 else (FX0_inSpan a3 t0 M).bind fun r7 => (if r7 = 0 then (wrI M (s + 3) 12 a3 (-2000000000)).bind fun M9 => some M9 else (wrI M (s + 3) 12 a3 t0).bind fun M11 => some M11))
def BX6_takeField_40 (s : Nat) (k2 : Nat) (a3 : Int32) (t1 : Int32) (t2 : Int32) (M : Mm) : Option Mm :=
  (wrZ M (s + 2) 12 t1 t2).bind fun M1 => (rdI M1 5 12 a3).bind fun v3 => (if v3 = 0 then (rdI M1 k2 12 a3).bind fun v6 => BX6_takeField_68 s k2 a3 v6 M1 else (ckR 7 12 a3).bind fun k8 => (rdI M1 k8 4 3).bind fun v10 => (FX6_valueOf s v10 M1).bind fun r13 => BX6_takeField_68 s k2 a3 r13 M1)
def BX6_takeField_35 (s : Nat) (k2 : Nat) (a3 : Int32) (t1 : Int32) (M : Mm) : Option Mm :=
  BX6_takeField_40 s k2 a3 t1 1 M
def FX6_takeField (s : Nat) (k2 : Nat) (x3 : Int32) (M : Mm) : Option Mm :=
  (ckR 7 12 x3).bind fun k1 => (rdI M k1 4 0).bind fun v3 => (if v3 = (-9) then BX6_takeField_35 s k2 x3 x3 M else (rdI M (s + 1) 50 v3).bind fun v6 => (FX9_isYes v6 M).bind fun r9 => (if r9 = 0 then BX6_takeField_40 s k2 x3 x3 0 M else BX6_takeField_35 s k2 x3 x3 M))
theorem eBX6_takeField_68 (s : Nat) (k2 : Nat) (a3 : Int32) (t0 : Int32) (M : Mm) : BX6_takeField_68 s k2 a3 t0 M = (rdI M (s + 2) 12 a3).bind fun v1 => (if v1 = 0 then (wrI M (s + 3) 12 a3 (-2000000000)).bind fun M4 => some M4 else (FX0_inSpan a3 t0 M).bind fun r7 => (if r7 = 0 then (wrI M (s + 3) 12 a3 (-2000000000)).bind fun M9 => some M9 else (wrI M (s + 3) 12 a3 t0).bind fun M11 => some M11)) := rfl
theorem eBX6_takeField_40 (s : Nat) (k2 : Nat) (a3 : Int32) (t1 : Int32) (t2 : Int32) (M : Mm) : BX6_takeField_40 s k2 a3 t1 t2 M = (wrZ M (s + 2) 12 t1 t2).bind fun M1 => (rdI M1 5 12 a3).bind fun v3 => (if v3 = 0 then (rdI M1 k2 12 a3).bind fun v6 => BX6_takeField_68 s k2 a3 v6 M1 else (ckR 7 12 a3).bind fun k8 => (rdI M1 k8 4 3).bind fun v10 => (FX6_valueOf s v10 M1).bind fun r13 => BX6_takeField_68 s k2 a3 r13 M1) := rfl
theorem eBX6_takeField_35 (s : Nat) (k2 : Nat) (a3 : Int32) (t1 : Int32) (M : Mm) : BX6_takeField_35 s k2 a3 t1 M = BX6_takeField_40 s k2 a3 t1 1 M := rfl
theorem eFX6_takeField (s : Nat) (k2 : Nat) (x3 : Int32) (M : Mm) : FX6_takeField s k2 x3 M = (ckR 7 12 x3).bind fun k1 => (rdI M k1 4 0).bind fun v3 => (if v3 = (-9) then BX6_takeField_35 s k2 x3 x3 M else (rdI M (s + 1) 50 v3).bind fun v6 => (FX9_isYes v6 M).bind fun r9 => (if r9 = 0 then BX6_takeField_40 s k2 x3 x3 0 M else BX6_takeField_35 s k2 x3 x3 M)) := rfl
set_option maxRecDepth 20000 in
theorem tX6_takeField_68 {l : Launch} {G : va_G} {tc : Nat → ClassId} {D : Nat → Nat} {s : Nat} {k2 : Nat} {a3 : Int32} {t0 : Int32} {M : Mm} {R : Mm} (hs : lay[s]? = some (.inl (6, [some (s + 1), some (s + 2), some (s + 3)]))) (hs1 : lay[s + 1]? = some (.inr (.inl (0, 50)))) (hs2 : lay[s + 2]? = some (.inr (.inl (1, 12)))) (hs3 : lay[s + 3]? = some (.inr (.inl (0, 12)))) (hk2 : lay[k2]? = some (.inr (.inl (0, 12)))) (h : BX6_takeField_68 s k2 a3 t0 M = some R) : WP l G tc D lay (fun _ => True) RX6 cX6_takeField 6 rX6_takeField (.code yX6_takeField cX6_takeField 6 none) 68 [some (.ref s), some (.ref 2), none, some (.int a3), none, none] [.int t0] M (RetQ cX6_takeField none (RQV R)) := by
  unfold BX6_takeField_68 at h
  refine WP.istore dX6_takeField_68 (by decide) rfl rfl ?_
  refine WP.aload_n dX6_takeField_70 rfl rfl ?_
  refine WP.getR (j := 2) dX6_takeField_71 hs rfl in_X6 (by decide) wd_216 rfl ?_
  refine WP.iload_n dX6_takeField_74 rfl rfl ?_
  refine WP.aload_n dX6_takeField_75 rfl rfl ?_
  refine WP.getR (j := 1) dX6_takeField_76 hs rfl in_X6 (by decide) wd_214 rfl ?_
  refine WP.iload_n dX6_takeField_79 rfl rfl ?_
  obtain ⟨v1, h2, h⟩ := Option.bind_eq_some_iff.mp h
  refine WP.zaldQ dX6_takeField_80 hs2 h2 ?_
  refine WP.if_eq (tgt := 99) dX6_takeField_81 (by decide) (fun c3 => ?_) (fun c3 => ?_)
  · rw [if_pos c3] at h
    refine WP.ldc (v := (-2000000000)) dX6_takeField_99 wd_494 ?_
    obtain ⟨M4, h5, h⟩ := Option.bind_eq_some_iff.mp h
    refine WP.iastQ dX6_takeField_101 hs3 h5 ?_
    cases h
    exact WP.vret dX6_takeField_102 ⟨rfl, rfl⟩
  · rw [if_neg c3] at h
    refine WP.aload_n dX6_takeField_84 rfl rfl ?_
    refine WP.iload_n dX6_takeField_85 rfl rfl ?_
    refine WP.iload dX6_takeField_86 rfl ?_
    obtain ⟨r7, h6, h⟩ := Option.bind_eq_some_iff.mp h
    refine WP.callVI [.int a3, .int t0] dX6_takeField_88 lk_X6_72 rfl rfl rfl (Nat.le_of_ble_eq_true rfl) (by decide) (Nat.le_of_ble_eq_true rfl) rfl (TX0_inSpan h6) ?_
    refine WP.if_eq (tgt := 99) dX6_takeField_91 (by decide) (fun c8 => ?_) (fun c8 => ?_)
    · rw [if_pos c8] at h
      refine WP.ldc (v := (-2000000000)) dX6_takeField_99 wd_494 ?_
      obtain ⟨M9, h10, h⟩ := Option.bind_eq_some_iff.mp h
      refine WP.iastQ dX6_takeField_101 hs3 h10 ?_
      cases h
      exact WP.vret dX6_takeField_102 ⟨rfl, rfl⟩
    · rw [if_neg c8] at h
      refine WP.iload dX6_takeField_94 rfl ?_
      refine WP.goto (tgt := 101) dX6_takeField_96 (by decide) ?_
      obtain ⟨M11, h12, h⟩ := Option.bind_eq_some_iff.mp h
      refine WP.iastQ dX6_takeField_101 hs3 h12 ?_
      cases h
      exact WP.vret dX6_takeField_102 ⟨rfl, rfl⟩
set_option maxRecDepth 20000 in
theorem tX6_takeField_40 {l : Launch} {G : va_G} {tc : Nat → ClassId} {D : Nat → Nat} {s : Nat} {k2 : Nat} {a3 : Int32} {t1 : Int32} {t2 : Int32} {M : Mm} {R : Mm} (hs : lay[s]? = some (.inl (6, [some (s + 1), some (s + 2), some (s + 3)]))) (hs1 : lay[s + 1]? = some (.inr (.inl (0, 50)))) (hs2 : lay[s + 2]? = some (.inr (.inl (1, 12)))) (hs3 : lay[s + 3]? = some (.inr (.inl (0, 12)))) (hk2 : lay[k2]? = some (.inr (.inl (0, 12)))) (h : BX6_takeField_40 s k2 a3 t1 t2 M = some R) : WP l G tc D lay (fun _ => True) RX6 cX6_takeField 6 rX6_takeField (.code yX6_takeField cX6_takeField 6 none) 40 [some (.ref s), some (.ref 2), some (.ref k2), some (.int a3), none, none] [.int t2, .int t1, .ref (s + 2)] M (RetQ cX6_takeField none (RQV R)) := by
  unfold BX6_takeField_40 at h
  obtain ⟨M1, h2, h⟩ := Option.bind_eq_some_iff.mp h
  refine WP.zastQ dX6_takeField_40 hs2 h2 ?_
  refine WP.aload_n dX6_takeField_41 rfl rfl ?_
  refine WP.getR (j := 2) dX6_takeField_42 rfl rfl in_X0 (by decide) wd_92 rfl ?_
  refine WP.iload_n dX6_takeField_45 rfl rfl ?_
  obtain ⟨v3, h4, h⟩ := Option.bind_eq_some_iff.mp h
  refine WP.zaldQ dX6_takeField_46 rfl h4 ?_
  refine WP.if_eq (tgt := 65) dX6_takeField_47 (by decide) (fun c5 => ?_) (fun c5 => ?_)
  · rw [if_pos c5] at h
    refine WP.aload_n dX6_takeField_65 rfl rfl ?_
    refine WP.iload_n dX6_takeField_66 rfl rfl ?_
    obtain ⟨v6, h7, h⟩ := Option.bind_eq_some_iff.mp h
    refine WP.ialdQ dX6_takeField_67 hk2 h7 ?_
    refine WP.fgt [true, true, false, true, false, false] rfl ?_
    exact tX6_takeField_68 hs hs1 hs2 hs3 hk2 h
  · rw [if_neg c5] at h
    refine WP.aload_n dX6_takeField_50 rfl rfl ?_
    refine WP.aload_n dX6_takeField_51 rfl rfl ?_
    refine WP.getR (j := 3) dX6_takeField_52 rfl rfl in_X0 (by decide) wd_96 rfl ?_
    refine WP.iload_n dX6_takeField_55 rfl rfl ?_
    obtain ⟨k8, h9, h⟩ := Option.bind_eq_some_iff.mp h
    refine WP.aaldQ (base := 7) (n := 12) dX6_takeField_56 rfl rfl h9 ?_
    have hk8 := rows_6 h9
    refine WP.iconst (v := 3) dX6_takeField_57 (by decide) ?_
    obtain ⟨v10, h11, h⟩ := Option.bind_eq_some_iff.mp h
    refine WP.ialdQ dX6_takeField_58 hk8 h11 ?_
    obtain ⟨r13, h12, h⟩ := Option.bind_eq_some_iff.mp h
    refine WP.callVI [.int v10] dX6_takeField_59 lk_X6_45 hs rfl rfl (Nat.le_of_ble_eq_true rfl) (by decide) (Nat.le_of_ble_eq_true rfl) rfl (TX6_valueOf (s := s) hs hs1 hs2 hs3 h12) ?_
    refine WP.goto (tgt := 68) dX6_takeField_62 (by decide) ?_
    refine WP.fgt [true, true, false, true, false, false] rfl ?_
    exact tX6_takeField_68 hs hs1 hs2 hs3 hk2 h
set_option maxRecDepth 20000 in
theorem tX6_takeField_35 {l : Launch} {G : va_G} {tc : Nat → ClassId} {D : Nat → Nat} {s : Nat} {k2 : Nat} {a3 : Int32} {t1 : Int32} {M : Mm} {R : Mm} (hs : lay[s]? = some (.inl (6, [some (s + 1), some (s + 2), some (s + 3)]))) (hs1 : lay[s + 1]? = some (.inr (.inl (0, 50)))) (hs2 : lay[s + 2]? = some (.inr (.inl (1, 12)))) (hs3 : lay[s + 3]? = some (.inr (.inl (0, 12)))) (hk2 : lay[k2]? = some (.inr (.inl (0, 12)))) (h : BX6_takeField_35 s k2 a3 t1 M = some R) : WP l G tc D lay (fun _ => True) RX6 cX6_takeField 6 rX6_takeField (.code yX6_takeField cX6_takeField 6 none) 35 [some (.ref s), some (.ref 2), some (.ref k2), some (.int a3), none, none] [.int t1, .ref (s + 2)] M (RetQ cX6_takeField none (RQV R)) := by
  unfold BX6_takeField_35 at h
  refine WP.iconst (v := 1) dX6_takeField_35 (by decide) ?_
  refine WP.goto (tgt := 40) dX6_takeField_36 (by decide) ?_
  refine WP.fgt [true, true, true, true, false, false] rfl ?_
  exact tX6_takeField_40 hs hs1 hs2 hs3 hk2 h
set_option maxRecDepth 20000 in
theorem TX6_takeField {l : Launch} {G : va_G} {tc : Nat → ClassId} {D : Nat → Nat} {s : Nat} {k2 : Nat} {x3 : Int32} {M : Mm} (hs : lay[s]? = some (.inl (6, [some (s + 1), some (s + 2), some (s + 3)]))) (hs1 : lay[s + 1]? = some (.inr (.inl (0, 50)))) (hs2 : lay[s + 2]? = some (.inr (.inl (1, 12)))) (hs3 : lay[s + 3]? = some (.inr (.inl (0, 12)))) (hk2 : lay[k2]? = some (.inr (.inl (0, 12)))) {R : Mm} (h : FX6_takeField s k2 x3 M = some R) : WP l G tc D lay (fun _ => True) yX6_takeField.cls cX6_takeField 6 rX6_takeField (.code yX6_takeField cX6_takeField 6 none) 0 (entL 6 [.ref s, .ref 2, .ref k2, .int x3]) [] M (RetQ cX6_takeField none (RQV R)) := by
  show WP l G tc D lay (fun _ => True) RX6 cX6_takeField 6 rX6_takeField (.code yX6_takeField cX6_takeField 6 none) 0 [some (.ref s), some (.ref 2), some (.ref k2), some (.int x3), none, none] [] M (RetQ cX6_takeField none (RQV R))
  unfold FX6_takeField at h
  refine WP.aload_n dX6_takeField_0 rfl rfl ?_
  refine WP.getR (j := 3) dX6_takeField_1 rfl rfl in_X0 (by decide) wd_96 rfl ?_
  refine WP.iload_n dX6_takeField_4 rfl rfl ?_
  obtain ⟨k1, h2, h⟩ := Option.bind_eq_some_iff.mp h
  refine WP.aaldQ (base := 7) (n := 12) dX6_takeField_5 rfl rfl h2 ?_
  have hk1 := rows_6 h2
  refine WP.iconst (v := 0) dX6_takeField_6 (by decide) ?_
  obtain ⟨v3, h4, h⟩ := Option.bind_eq_some_iff.mp h
  refine WP.ialdQ dX6_takeField_7 hk1 h4 ?_
  refine WP.istore dX6_takeField_8 (by decide) rfl rfl ?_
  refine WP.aload_n dX6_takeField_10 rfl rfl ?_
  refine WP.getR (j := 1) dX6_takeField_11 hs rfl in_X6 (by decide) wd_214 rfl ?_
  refine WP.iload_n dX6_takeField_14 rfl rfl ?_
  refine WP.iload dX6_takeField_15 rfl ?_
  refine WP.bipush (v := (-9)) dX6_takeField_17 (by decide) ?_
  refine WP.icmp_eq (tgt := 35) dX6_takeField_19 (by decide) (fun c5 => ?_) (fun c5 => ?_)
  · rw [if_pos c5] at h
    refine WP.fgt [true, true, true, true, false, false] rfl ?_
    exact tX6_takeField_35 hs hs1 hs2 hs3 hk2 h
  · rw [if_neg c5] at h
    refine WP.aload_n dX6_takeField_22 rfl rfl ?_
    refine WP.getR (j := 0) dX6_takeField_23 hs rfl in_X6 (by decide) wd_212 rfl ?_
    refine WP.iload dX6_takeField_26 rfl ?_
    obtain ⟨v6, h7, h⟩ := Option.bind_eq_some_iff.mp h
    refine WP.ialdQ dX6_takeField_28 hs1 h7 ?_
    obtain ⟨r9, h8, h⟩ := Option.bind_eq_some_iff.mp h
    refine WP.callNI [.int v6] dX6_takeField_29 lk_X6_49 rfl (Nat.le_of_ble_eq_true rfl) (by decide) (Nat.le_of_ble_eq_true rfl) rfl (TX9_isYes h8) ?_
    refine WP.if_eq (tgt := 39) dX6_takeField_32 (by decide) (fun c10 => ?_) (fun c10 => ?_)
    · rw [if_pos c10] at h
      refine WP.iconst (v := 0) dX6_takeField_39 (by decide) ?_
      refine WP.fgt [true, true, true, true, false, false] rfl ?_
      exact tX6_takeField_40 hs hs1 hs2 hs3 hk2 h
    · rw [if_neg c10] at h
      refine WP.fgt [true, true, true, true, false, false] rfl ?_
      exact tX6_takeField_35 hs hs1 hs2 hs3 hk2 h
/-! X6_takeStep -/
def rX6_takeStep : Room := { frames := 3, cells := 0, slots := 0, locals := 66 }
def FX6_takeStep (s : Nat) (k2 : Nat) (x3 : Int32) (M : Mm) : Option Mm :=
  (if 50 ≤ x3 then (FX6_takeField s k2 (x3 - 50) M).bind fun M3 => some M3 else (FX6_workOut s x3 M).bind fun r5 => (wrI M (s + 1) 50 x3 r5).bind fun M6 => some M6)
theorem eFX6_takeStep (s : Nat) (k2 : Nat) (x3 : Int32) (M : Mm) : FX6_takeStep s k2 x3 M = (if 50 ≤ x3 then (FX6_takeField s k2 (x3 - 50) M).bind fun M3 => some M3 else (FX6_workOut s x3 M).bind fun r5 => (wrI M (s + 1) 50 x3 r5).bind fun M6 => some M6) := rfl
set_option maxRecDepth 20000 in
theorem TX6_takeStep {l : Launch} {G : va_G} {tc : Nat → ClassId} {D : Nat → Nat} {s : Nat} {k2 : Nat} {x3 : Int32} {M : Mm} (hs : lay[s]? = some (.inl (6, [some (s + 1), some (s + 2), some (s + 3)]))) (hs1 : lay[s + 1]? = some (.inr (.inl (0, 50)))) (hs2 : lay[s + 2]? = some (.inr (.inl (1, 12)))) (hs3 : lay[s + 3]? = some (.inr (.inl (0, 12)))) (hk2 : lay[k2]? = some (.inr (.inl (0, 12)))) {R : Mm} (h : FX6_takeStep s k2 x3 M = some R) : WP l G tc D lay (fun _ => True) yX6_takeStep.cls cX6_takeStep 4 rX6_takeStep (.code yX6_takeStep cX6_takeStep 4 none) 0 (entL 4 [.ref s, .ref 1, .ref k2, .int x3]) [] M (RetQ cX6_takeStep none (RQV R)) := by
  show WP l G tc D lay (fun _ => True) RX6 cX6_takeStep 4 rX6_takeStep (.code yX6_takeStep cX6_takeStep 4 none) 0 [some (.ref s), some (.ref 1), some (.ref k2), some (.int x3)] [] M (RetQ cX6_takeStep none (RQV R))
  unfold FX6_takeStep at h
  refine WP.iload_n dX6_takeStep_0 rfl rfl ?_
  refine WP.bipush (v := 50) dX6_takeStep_1 (by decide) ?_
  refine WP.icmp_ge (tgt := 24) dX6_takeStep_3 (by decide) (fun c1 => ?_) (fun c1 => ?_)
  · rw [if_pos c1] at h
    refine WP.aload_n dX6_takeStep_24 rfl rfl ?_
    refine WP.aload_n dX6_takeStep_25 rfl rfl ?_
    refine WP.getR (j := 0) dX6_takeStep_26 rfl rfl in_X2 (by decide) wd_162 rfl ?_
    refine WP.aload_n dX6_takeStep_29 rfl rfl ?_
    refine WP.iload_n dX6_takeStep_30 rfl rfl ?_
    refine WP.bipush (v := 50) dX6_takeStep_31 (by decide) ?_
    refine WP.isub dX6_takeStep_33 ?_
    obtain ⟨M3, h2, h⟩ := Option.bind_eq_some_iff.mp h
    refine WP.callVV [.ref 2, .ref k2, .int (x3 - 50)] dX6_takeStep_34 lk_X6_65 hs rfl rfl (Nat.le_of_ble_eq_true rfl) (by decide) (Nat.le_of_ble_eq_true rfl) rfl (TX6_takeField (s := s) (k2 := k2) hs hs1 hs2 hs3 hk2 h2) ?_
    cases h
    exact WP.vret dX6_takeStep_37 ⟨rfl, rfl⟩
  · rw [if_neg c1] at h
    refine WP.aload_n dX6_takeStep_6 rfl rfl ?_
    refine WP.getR (j := 0) dX6_takeStep_7 hs rfl in_X6 (by decide) wd_212 rfl ?_
    refine WP.iload_n dX6_takeStep_10 rfl rfl ?_
    refine WP.aload_n dX6_takeStep_11 rfl rfl ?_
    refine WP.aload_n dX6_takeStep_12 rfl rfl ?_
    refine WP.getR (j := 1) dX6_takeStep_13 rfl rfl in_X2 (by decide) wd_165 rfl ?_
    refine WP.iload_n dX6_takeStep_16 rfl rfl ?_
    obtain ⟨r5, h4, h⟩ := Option.bind_eq_some_iff.mp h
    refine WP.callVI [.ref 21, .int x3] dX6_takeStep_17 lk_X6_57 hs rfl rfl (Nat.le_of_ble_eq_true rfl) (by decide) (Nat.le_of_ble_eq_true rfl) rfl (TX6_workOut (s := s) hs hs1 hs2 hs3 h4) ?_
    obtain ⟨M6, h7, h⟩ := Option.bind_eq_some_iff.mp h
    refine WP.iastQ dX6_takeStep_20 hs1 h7 ?_
    refine WP.goto (tgt := 37) dX6_takeStep_21 (by decide) ?_
    cases h
    exact WP.vret dX6_takeStep_37 ⟨rfl, rfl⟩
/-! X6_look -/
def rX6_look : Room := { frames := 4, cells := 0, slots := 0, locals := 89 }
def BX6_look_2 (N : Nat) (s : Nat) (k2 : Nat) (K2 : Int32 × Mm → Option Mm) (q : Int32 × Mm) : Option Mm :=
  (if (q.2.1 1 5) ≤ q.1 then some q.2 else (rdI q.2 27 62 q.1).bind fun v2 => (FX6_takeStep s k2 v2 q.2).bind fun M5 => K2 ((q.1 + 1), M5))
def FX6_look (N : Nat) (s : Nat) (k2 : Nat) (M : Mm) : Option Mm :=
  lp (BX6_look_2 N s k2) N (0, M)
theorem eBX6_look_2 (N : Nat) (s : Nat) (k2 : Nat) (K2 : Int32 × Mm → Option Mm) (q : Int32 × Mm) : BX6_look_2 N s k2 K2 q = (if (q.2.1 1 5) ≤ q.1 then some q.2 else (rdI q.2 27 62 q.1).bind fun v2 => (FX6_takeStep s k2 v2 q.2).bind fun M5 => K2 ((q.1 + 1), M5)) := rfl
theorem eFX6_look (N : Nat) (s : Nat) (k2 : Nat) (M : Mm) : FX6_look N s k2 M = lp (BX6_look_2 N s k2) N (0, M) := rfl
set_option maxRecDepth 20000 in
theorem tX6_look_2 {l : Launch} {G : va_G} {tc : Nat → ClassId} {D : Nat → Nat} {N : Nat} {s : Nat} {k2 : Nat} (hs : lay[s]? = some (.inl (6, [some (s + 1), some (s + 2), some (s + 3)]))) (hs1 : lay[s + 1]? = some (.inr (.inl (0, 50)))) (hs2 : lay[s + 2]? = some (.inr (.inl (1, 12)))) (hs3 : lay[s + 3]? = some (.inr (.inl (0, 12)))) (hk2 : lay[k2]? = some (.inr (.inl (0, 12)))) : ∀ (nn : Nat) (q : Int32 × Mm) (R : Mm), lp (BX6_look_2 N s k2) nn q = some R → WP l G tc D lay (fun _ => True) RX6 cX6_look 4 rX6_look (.code yX6_look cX6_look 4 none) 2 [some (.ref s), some (.ref 1), some (.ref k2), some (.int q.1)] [] q.2 (RetQ cX6_look none (RQV R)) := by
  refine lp_ind (fun K2 hK2q q R h => ?_)
  have hK2 : ∀ (z0 : Int32) (z1 : Mm) (R : Mm), K2 (z0, z1) = some R → WP l G tc D lay (fun _ => True) RX6 cX6_look 4 rX6_look (.code yX6_look cX6_look 4 none) 2 [some (.ref s), some (.ref 1), some (.ref k2), some (.int z0)] [] z1 (RetQ cX6_look none (RQV R)) := fun z0 z1 R hh => hK2q (z0, z1) R hh
  unfold BX6_look_2 at h
  refine WP.iload_n dX6_look_2 rfl rfl ?_
  refine WP.aload_n dX6_look_3 rfl rfl ?_
  refine WP.getI (j := 5) dX6_look_4 rfl rfl in_X2 (by decide) wd_171 rfl ?_
  refine WP.icmp_ge (tgt := 28) dX6_look_7 (by decide) (fun c1 => ?_) (fun c1 => ?_)
  · rw [if_pos c1] at h
    cases h
    exact WP.vret dX6_look_28 ⟨rfl, rfl⟩
  · rw [if_neg c1] at h
    refine WP.aload_n dX6_look_10 rfl rfl ?_
    refine WP.aload_n dX6_look_11 rfl rfl ?_
    refine WP.aload_n dX6_look_12 rfl rfl ?_
    refine WP.aload_n dX6_look_13 rfl rfl ?_
    refine WP.getR (j := 2) dX6_look_14 rfl rfl in_X2 (by decide) wd_167 rfl ?_
    refine WP.iload_n dX6_look_17 rfl rfl ?_
    obtain ⟨v2, h3, h⟩ := Option.bind_eq_some_iff.mp h
    refine WP.ialdQ dX6_look_18 rfl h3 ?_
    obtain ⟨M5, h4, h⟩ := Option.bind_eq_some_iff.mp h
    refine WP.callVV [.ref 1, .ref k2, .int v2] dX6_look_19 lk_X6_31 hs rfl rfl (Nat.le_of_ble_eq_true rfl) (by decide) (Nat.le_of_ble_eq_true rfl) rfl (TX6_takeStep (s := s) (k2 := k2) hs hs1 hs2 hs3 hk2 h4) ?_
    refine WP.iinc (v := (q.1 + 1)) dX6_look_22 rfl rfl (by decide) rfl rfl ?_
    refine WP.goto (tgt := 2) dX6_look_25 (by decide) ?_
    refine WP.fgt [true, true, true, true] rfl ?_
    exact hK2 (q.1 + 1) M5 _ h
theorem uX6_look_2 {l : Launch} {G : va_G} {tc : Nat → ClassId} {D : Nat → Nat} {N : Nat} {s : Nat} {k2 : Nat} (hs : lay[s]? = some (.inl (6, [some (s + 1), some (s + 2), some (s + 3)]))) (hs1 : lay[s + 1]? = some (.inr (.inl (0, 50)))) (hs2 : lay[s + 2]? = some (.inr (.inl (1, 12)))) (hs3 : lay[s + 3]? = some (.inr (.inl (0, 12)))) (hk2 : lay[k2]? = some (.inr (.inl (0, 12)))) (nn : Nat) : ∀ (z0 : Int32) (z1 : Mm) (R : Mm), lp (BX6_look_2 N s k2) nn (z0, z1) = some R → WP l G tc D lay (fun _ => True) RX6 cX6_look 4 rX6_look (.code yX6_look cX6_look 4 none) 2 [some (.ref s), some (.ref 1), some (.ref k2), some (.int z0)] [] z1 (RetQ cX6_look none (RQV R)) := fun z0 z1 R hh => tX6_look_2 hs hs1 hs2 hs3 hk2 nn (z0, z1) R hh
set_option maxRecDepth 20000 in
theorem TX6_look {l : Launch} {G : va_G} {tc : Nat → ClassId} {D : Nat → Nat} {N : Nat} {s : Nat} {k2 : Nat} {M : Mm} (hs : lay[s]? = some (.inl (6, [some (s + 1), some (s + 2), some (s + 3)]))) (hs1 : lay[s + 1]? = some (.inr (.inl (0, 50)))) (hs2 : lay[s + 2]? = some (.inr (.inl (1, 12)))) (hs3 : lay[s + 3]? = some (.inr (.inl (0, 12)))) (hk2 : lay[k2]? = some (.inr (.inl (0, 12)))) {R : Mm} (h : FX6_look N s k2 M = some R) : WP l G tc D lay (fun _ => True) yX6_look.cls cX6_look 4 rX6_look (.code yX6_look cX6_look 4 none) 0 (entL 4 [.ref s, .ref 1, .ref k2]) [] M (RetQ cX6_look none (RQV R)) := by
  show WP l G tc D lay (fun _ => True) RX6 cX6_look 4 rX6_look (.code yX6_look cX6_look 4 none) 0 [some (.ref s), some (.ref 1), some (.ref k2), none] [] M (RetQ cX6_look none (RQV R))
  unfold FX6_look at h
  refine WP.iconst (v := 0) dX6_look_0 (by decide) ?_
  refine WP.istore_n dX6_look_1 rfl (by decide) rfl rfl ?_
  refine WP.fgt [true, true, true, true] rfl ?_
  exact uX6_look_2 hs hs1 hs2 hs3 hk2 N 0 M _ h
/-! X6_lookAgain -/
def rX6_lookAgain : Room := { frames := 4, cells := 0, slots := 0, locals := 89 }
def BX6_lookAgain_3 (N : Nat) (s : Nat) (k2 : Nat) (K3 : Int32 × Int32 × Mm → Option Mm) (q : Int32 × Int32 × Mm) : Option Mm :=
  (if (q.2.2.1 1 5) ≤ q.2.1 then some q.2.2 else (rdI q.2.2 28 62 q.2.1).bind fun v2 => (if (v2 &&& q.1) = 0 then K3 (q.1, (q.2.1 + 1), q.2.2) else (rdI q.2.2 27 62 q.2.1).bind fun v5 => (FX6_takeStep s k2 v5 q.2.2).bind fun M8 => K3 (q.1, (q.2.1 + 1), M8)))
def FX6_lookAgain (N : Nat) (s : Nat) (k2 : Nat) (x3 : Int32) (M : Mm) : Option Mm :=
  lp (BX6_lookAgain_3 N s k2) N (x3, 0, M)
theorem eBX6_lookAgain_3 (N : Nat) (s : Nat) (k2 : Nat) (K3 : Int32 × Int32 × Mm → Option Mm) (q : Int32 × Int32 × Mm) : BX6_lookAgain_3 N s k2 K3 q = (if (q.2.2.1 1 5) ≤ q.2.1 then some q.2.2 else (rdI q.2.2 28 62 q.2.1).bind fun v2 => (if (v2 &&& q.1) = 0 then K3 (q.1, (q.2.1 + 1), q.2.2) else (rdI q.2.2 27 62 q.2.1).bind fun v5 => (FX6_takeStep s k2 v5 q.2.2).bind fun M8 => K3 (q.1, (q.2.1 + 1), M8))) := rfl
theorem eFX6_lookAgain (N : Nat) (s : Nat) (k2 : Nat) (x3 : Int32) (M : Mm) : FX6_lookAgain N s k2 x3 M = lp (BX6_lookAgain_3 N s k2) N (x3, 0, M) := rfl
set_option maxRecDepth 20000 in
theorem tX6_lookAgain_3 {l : Launch} {G : va_G} {tc : Nat → ClassId} {D : Nat → Nat} {N : Nat} {s : Nat} {k2 : Nat} (hs : lay[s]? = some (.inl (6, [some (s + 1), some (s + 2), some (s + 3)]))) (hs1 : lay[s + 1]? = some (.inr (.inl (0, 50)))) (hs2 : lay[s + 2]? = some (.inr (.inl (1, 12)))) (hs3 : lay[s + 3]? = some (.inr (.inl (0, 12)))) (hk2 : lay[k2]? = some (.inr (.inl (0, 12)))) : ∀ (nn : Nat) (q : Int32 × Int32 × Mm) (R : Mm), lp (BX6_lookAgain_3 N s k2) nn q = some R → WP l G tc D lay (fun _ => True) RX6 cX6_lookAgain 5 rX6_lookAgain (.code yX6_lookAgain cX6_lookAgain 5 none) 3 [some (.ref s), some (.ref 1), some (.ref k2), some (.int q.1), some (.int q.2.1)] [] q.2.2 (RetQ cX6_lookAgain none (RQV R)) := by
  refine lp_ind (fun K3 hK3q q R h => ?_)
  have hK3 : ∀ (z0 : Int32) (z1 : Int32) (z2 : Mm) (R : Mm), K3 (z0, z1, z2) = some R → WP l G tc D lay (fun _ => True) RX6 cX6_lookAgain 5 rX6_lookAgain (.code yX6_lookAgain cX6_lookAgain 5 none) 3 [some (.ref s), some (.ref 1), some (.ref k2), some (.int z0), some (.int z1)] [] z2 (RetQ cX6_lookAgain none (RQV R)) := fun z0 z1 z2 R hh => hK3q (z0, z1, z2) R hh
  unfold BX6_lookAgain_3 at h
  refine WP.iload dX6_lookAgain_3 rfl ?_
  refine WP.aload_n dX6_lookAgain_5 rfl rfl ?_
  refine WP.getI (j := 5) dX6_lookAgain_6 rfl rfl in_X2 (by decide) wd_171 rfl ?_
  refine WP.icmp_ge (tgt := 43) dX6_lookAgain_9 (by decide) (fun c1 => ?_) (fun c1 => ?_)
  · rw [if_pos c1] at h
    cases h
    exact WP.vret dX6_lookAgain_43 ⟨rfl, rfl⟩
  · rw [if_neg c1] at h
    refine WP.aload_n dX6_lookAgain_12 rfl rfl ?_
    refine WP.getR (j := 3) dX6_lookAgain_13 rfl rfl in_X2 (by decide) wd_169 rfl ?_
    refine WP.iload dX6_lookAgain_16 rfl ?_
    obtain ⟨v2, h3, h⟩ := Option.bind_eq_some_iff.mp h
    refine WP.ialdQ dX6_lookAgain_18 rfl h3 ?_
    refine WP.iload_n dX6_lookAgain_19 rfl rfl ?_
    refine WP.iand dX6_lookAgain_20 ?_
    refine WP.if_eq (tgt := 37) dX6_lookAgain_21 (by decide) (fun c4 => ?_) (fun c4 => ?_)
    · rw [if_pos c4] at h
      refine WP.iinc (v := (q.2.1 + 1)) dX6_lookAgain_37 rfl rfl (by decide) rfl rfl ?_
      refine WP.goto (tgt := 3) dX6_lookAgain_40 (by decide) ?_
      refine WP.fgt [true, true, true, true, true] rfl ?_
      exact hK3 q.1 (q.2.1 + 1) q.2.2 _ h
    · rw [if_neg c4] at h
      refine WP.aload_n dX6_lookAgain_24 rfl rfl ?_
      refine WP.aload_n dX6_lookAgain_25 rfl rfl ?_
      refine WP.aload_n dX6_lookAgain_26 rfl rfl ?_
      refine WP.aload_n dX6_lookAgain_27 rfl rfl ?_
      refine WP.getR (j := 2) dX6_lookAgain_28 rfl rfl in_X2 (by decide) wd_167 rfl ?_
      refine WP.iload dX6_lookAgain_31 rfl ?_
      obtain ⟨v5, h6, h⟩ := Option.bind_eq_some_iff.mp h
      refine WP.ialdQ dX6_lookAgain_33 rfl h6 ?_
      obtain ⟨M8, h7, h⟩ := Option.bind_eq_some_iff.mp h
      refine WP.callVV [.ref 1, .ref k2, .int v5] dX6_lookAgain_34 lk_X6_31 hs rfl rfl (Nat.le_of_ble_eq_true rfl) (by decide) (Nat.le_of_ble_eq_true rfl) rfl (TX6_takeStep (s := s) (k2 := k2) hs hs1 hs2 hs3 hk2 h7) ?_
      refine WP.iinc (v := (q.2.1 + 1)) dX6_lookAgain_37 rfl rfl (by decide) rfl rfl ?_
      refine WP.goto (tgt := 3) dX6_lookAgain_40 (by decide) ?_
      refine WP.fgt [true, true, true, true, true] rfl ?_
      exact hK3 q.1 (q.2.1 + 1) M8 _ h
theorem uX6_lookAgain_3 {l : Launch} {G : va_G} {tc : Nat → ClassId} {D : Nat → Nat} {N : Nat} {s : Nat} {k2 : Nat} (hs : lay[s]? = some (.inl (6, [some (s + 1), some (s + 2), some (s + 3)]))) (hs1 : lay[s + 1]? = some (.inr (.inl (0, 50)))) (hs2 : lay[s + 2]? = some (.inr (.inl (1, 12)))) (hs3 : lay[s + 3]? = some (.inr (.inl (0, 12)))) (hk2 : lay[k2]? = some (.inr (.inl (0, 12)))) (nn : Nat) : ∀ (z0 : Int32) (z1 : Int32) (z2 : Mm) (R : Mm), lp (BX6_lookAgain_3 N s k2) nn (z0, z1, z2) = some R → WP l G tc D lay (fun _ => True) RX6 cX6_lookAgain 5 rX6_lookAgain (.code yX6_lookAgain cX6_lookAgain 5 none) 3 [some (.ref s), some (.ref 1), some (.ref k2), some (.int z0), some (.int z1)] [] z2 (RetQ cX6_lookAgain none (RQV R)) := fun z0 z1 z2 R hh => tX6_lookAgain_3 hs hs1 hs2 hs3 hk2 nn (z0, z1, z2) R hh
set_option maxRecDepth 20000 in
theorem TX6_lookAgain {l : Launch} {G : va_G} {tc : Nat → ClassId} {D : Nat → Nat} {N : Nat} {s : Nat} {k2 : Nat} {x3 : Int32} {M : Mm} (hs : lay[s]? = some (.inl (6, [some (s + 1), some (s + 2), some (s + 3)]))) (hs1 : lay[s + 1]? = some (.inr (.inl (0, 50)))) (hs2 : lay[s + 2]? = some (.inr (.inl (1, 12)))) (hs3 : lay[s + 3]? = some (.inr (.inl (0, 12)))) (hk2 : lay[k2]? = some (.inr (.inl (0, 12)))) {R : Mm} (h : FX6_lookAgain N s k2 x3 M = some R) : WP l G tc D lay (fun _ => True) yX6_lookAgain.cls cX6_lookAgain 5 rX6_lookAgain (.code yX6_lookAgain cX6_lookAgain 5 none) 0 (entL 5 [.ref s, .ref 1, .ref k2, .int x3]) [] M (RetQ cX6_lookAgain none (RQV R)) := by
  show WP l G tc D lay (fun _ => True) RX6 cX6_lookAgain 5 rX6_lookAgain (.code yX6_lookAgain cX6_lookAgain 5 none) 0 [some (.ref s), some (.ref 1), some (.ref k2), some (.int x3), none] [] M (RetQ cX6_lookAgain none (RQV R))
  unfold FX6_lookAgain at h
  refine WP.iconst (v := 0) dX6_lookAgain_0 (by decide) ?_
  refine WP.istore dX6_lookAgain_1 (by decide) rfl rfl ?_
  refine WP.fgt [true, true, true, true, true] rfl ?_
  exact uX6_lookAgain_3 hs hs1 hs2 hs3 hk2 N x3 0 M _ h
/-! X8_countRows -/
def rX8_countRows : Room := { frames := 1, cells := 0, slots := 0, locals := 21 }
def BX8_countRows_4 (N : Nat) (M : Mm) (K4 : Int32 × Int32 × Int32 → Option Int32) (q : Int32 × Int32 × Int32) : Option Int32 :=
  (if (M.1 2 6) ≤ q.2.2 then some q.2.1 else (if 20000 < q.2.1 then some q.2.1 else (FX9_hasBit q.1 q.2.2 M).bind fun r4 => (if r4 = 0 then K4 (q.1, q.2.1, (q.2.2 + 1)) else (rdI M 4 12 q.2.2).bind fun v6 => (rdI M 3 12 q.2.2).bind fun v8 => K4 (q.1, (q.2.1 * ((v6 - v8) + 2)), (q.2.2 + 1)))))
def FX8_countRows (N : Nat) (x2 : Int32) (M : Mm) : Option Int32 :=
  lp (BX8_countRows_4 N M) N (x2, 1, 0)
theorem eBX8_countRows_4 (N : Nat) (M : Mm) (K4 : Int32 × Int32 × Int32 → Option Int32) (q : Int32 × Int32 × Int32) : BX8_countRows_4 N M K4 q = (if (M.1 2 6) ≤ q.2.2 then some q.2.1 else (if 20000 < q.2.1 then some q.2.1 else (FX9_hasBit q.1 q.2.2 M).bind fun r4 => (if r4 = 0 then K4 (q.1, q.2.1, (q.2.2 + 1)) else (rdI M 4 12 q.2.2).bind fun v6 => (rdI M 3 12 q.2.2).bind fun v8 => K4 (q.1, (q.2.1 * ((v6 - v8) + 2)), (q.2.2 + 1))))) := rfl
theorem eFX8_countRows (N : Nat) (x2 : Int32) (M : Mm) : FX8_countRows N x2 M = lp (BX8_countRows_4 N M) N (x2, 1, 0) := rfl
set_option maxRecDepth 20000 in
theorem tX8_countRows_4 {l : Launch} {G : va_G} {tc : Nat → ClassId} {D : Nat → Nat} {N : Nat} {M : Mm} : ∀ (nn : Nat) (q : Int32 × Int32 × Int32) (R : Int32), lp (BX8_countRows_4 N M) nn q = some R → WP l G tc D lay (fun _ => True) RX8 cX8_countRows 4 rX8_countRows (.code yX8_countRows cX8_countRows 4 (some .int)) 4 [some (.ref 2), some (.int q.1), some (.int q.2.1), some (.int q.2.2)] [] M (RetQ cX8_countRows (some .int) (RQI R M)) := by
  refine lp_ind (fun K4 hK4q q R h => ?_)
  have hK4 : ∀ (z0 : Int32) (z1 : Int32) (z2 : Int32) (R : Int32), K4 (z0, z1, z2) = some R → WP l G tc D lay (fun _ => True) RX8 cX8_countRows 4 rX8_countRows (.code yX8_countRows cX8_countRows 4 (some .int)) 4 [some (.ref 2), some (.int z0), some (.int z1), some (.int z2)] [] M (RetQ cX8_countRows (some .int) (RQI R M)) := fun z0 z1 z2 R hh => hK4q (z0, z1, z2) R hh
  unfold BX8_countRows_4 at h
  refine WP.iload_n dX8_countRows_4 rfl rfl ?_
  refine WP.aload_n dX8_countRows_5 rfl rfl ?_
  refine WP.getI (j := 6) dX8_countRows_6 rfl rfl in_X0 (by decide) wd_106 rfl ?_
  refine WP.icmp_ge (tgt := 51) dX8_countRows_9 (by decide) (fun c1 => ?_) (fun c1 => ?_)
  · rw [if_pos c1] at h
    refine WP.iload_n dX8_countRows_51 rfl rfl ?_
    cases h
    exact WP.iret dX8_countRows_52 ⟨rfl, rfl⟩
  · rw [if_neg c1] at h
    refine WP.iload_n dX8_countRows_12 rfl rfl ?_
    refine WP.sipush (v := 20000) dX8_countRows_13 (by decide) ?_
    refine WP.icmp_gt (tgt := 51) dX8_countRows_16 (by decide) (fun c2 => ?_) (fun c2 => ?_)
    · rw [if_pos c2] at h
      refine WP.iload_n dX8_countRows_51 rfl rfl ?_
      cases h
      exact WP.iret dX8_countRows_52 ⟨rfl, rfl⟩
    · rw [if_neg c2] at h
      refine WP.iload_n dX8_countRows_19 rfl rfl ?_
      refine WP.iload_n dX8_countRows_20 rfl rfl ?_
      obtain ⟨r4, h3, h⟩ := Option.bind_eq_some_iff.mp h
      refine WP.callNI [.int q.1, .int q.2.2] dX8_countRows_21 lk_X8_82 rfl (Nat.le_of_ble_eq_true rfl) (by decide) (Nat.le_of_ble_eq_true rfl) rfl (TX9_hasBit h3) ?_
      refine WP.if_eq (tgt := 45) dX8_countRows_24 (by decide) (fun c5 => ?_) (fun c5 => ?_)
      · rw [if_pos c5] at h
        refine WP.iinc (v := (q.2.2 + 1)) dX8_countRows_45 rfl rfl (by decide) rfl rfl ?_
        refine WP.goto (tgt := 4) dX8_countRows_48 (by decide) ?_
        refine WP.fgt [true, true, true, true] rfl ?_
        exact hK4 q.1 q.2.1 (q.2.2 + 1) _ h
      · rw [if_neg c5] at h
        refine WP.iload_n dX8_countRows_27 rfl rfl ?_
        refine WP.aload_n dX8_countRows_28 rfl rfl ?_
        refine WP.getR (j := 1) dX8_countRows_29 rfl rfl in_X0 (by decide) wd_86 rfl ?_
        refine WP.iload_n dX8_countRows_32 rfl rfl ?_
        obtain ⟨v6, h7, h⟩ := Option.bind_eq_some_iff.mp h
        refine WP.ialdQ dX8_countRows_33 rfl h7 ?_
        refine WP.aload_n dX8_countRows_34 rfl rfl ?_
        refine WP.getR (j := 0) dX8_countRows_35 rfl rfl in_X0 (by decide) wd_82 rfl ?_
        refine WP.iload_n dX8_countRows_38 rfl rfl ?_
        obtain ⟨v8, h9, h⟩ := Option.bind_eq_some_iff.mp h
        refine WP.ialdQ dX8_countRows_39 rfl h9 ?_
        refine WP.isub dX8_countRows_40 ?_
        refine WP.iconst (v := 2) dX8_countRows_41 (by decide) ?_
        refine WP.iadd dX8_countRows_42 ?_
        refine WP.imul dX8_countRows_43 ?_
        refine WP.istore_n dX8_countRows_44 rfl (by decide) rfl rfl ?_
        refine WP.iinc (v := (q.2.2 + 1)) dX8_countRows_45 rfl rfl (by decide) rfl rfl ?_
        refine WP.goto (tgt := 4) dX8_countRows_48 (by decide) ?_
        refine WP.fgt [true, true, true, true] rfl ?_
        exact hK4 q.1 (q.2.1 * ((v6 - v8) + 2)) (q.2.2 + 1) _ h
theorem uX8_countRows_4 {l : Launch} {G : va_G} {tc : Nat → ClassId} {D : Nat → Nat} {N : Nat} {M : Mm} (nn : Nat) : ∀ (z0 : Int32) (z1 : Int32) (z2 : Int32) (R : Int32), lp (BX8_countRows_4 N M) nn (z0, z1, z2) = some R → WP l G tc D lay (fun _ => True) RX8 cX8_countRows 4 rX8_countRows (.code yX8_countRows cX8_countRows 4 (some .int)) 4 [some (.ref 2), some (.int z0), some (.int z1), some (.int z2)] [] M (RetQ cX8_countRows (some .int) (RQI R M)) := fun z0 z1 z2 R hh => tX8_countRows_4  nn (z0, z1, z2) R hh
set_option maxRecDepth 20000 in
theorem TX8_countRows {l : Launch} {G : va_G} {tc : Nat → ClassId} {D : Nat → Nat} {N : Nat} {x2 : Int32} {M : Mm} {R : Int32} (h : FX8_countRows N x2 M = some R) : WP l G tc D lay (fun _ => True) yX8_countRows.cls cX8_countRows 4 rX8_countRows (.code yX8_countRows cX8_countRows 4 (some .int)) 0 (entL 4 [.ref 2, .int x2]) [] M (RetQ cX8_countRows (some .int) (RQI R M)) := by
  show WP l G tc D lay (fun _ => True) RX8 cX8_countRows 4 rX8_countRows (.code yX8_countRows cX8_countRows 4 (some .int)) 0 [some (.ref 2), some (.int x2), none, none] [] M (RetQ cX8_countRows (some .int) (RQI R M))
  unfold FX8_countRows at h
  refine WP.iconst (v := 1) dX8_countRows_0 (by decide) ?_
  refine WP.istore_n dX8_countRows_1 rfl (by decide) rfl rfl ?_
  refine WP.iconst (v := 0) dX8_countRows_2 (by decide) ?_
  refine WP.istore_n dX8_countRows_3 rfl (by decide) rfl rfl ?_
  refine WP.fgt [true, true, true, true] rfl ?_
  exact uX8_countRows_4  N x2 1 0 _ h
/-! X8_listTurning -/
def rX8_listTurning : Room := { frames := 1, cells := 0, slots := 0, locals := 21 }
def BX8_listTurning_7 (N : Nat) (K7 : Int32 × Int32 × Mm → Option Mm) (q : Int32 × Int32 × Mm) : Option Mm :=
  (if 12 ≤ q.2.1 then some q.2.2 else (FX9_hasBit q.1 q.2.1 q.2.2).bind fun r3 => (if r3 = 0 then K7 (q.1, (q.2.1 + 1), q.2.2) else (wrI q.2.2 63 12 (q.2.2.1 61 3) q.2.1).bind fun M5 => (wrF M5 61 3 ((M5.1 61 3) + 1)).bind fun M7 => K7 (q.1, (q.2.1 + 1), M7)))
def FX8_listTurning (N : Nat) (x1 : Int32) (M : Mm) : Option Mm :=
  (wrF M 61 3 0).bind fun M1 => lp (BX8_listTurning_7 N) N (x1, 0, M1)
theorem eBX8_listTurning_7 (N : Nat) (K7 : Int32 × Int32 × Mm → Option Mm) (q : Int32 × Int32 × Mm) : BX8_listTurning_7 N K7 q = (if 12 ≤ q.2.1 then some q.2.2 else (FX9_hasBit q.1 q.2.1 q.2.2).bind fun r3 => (if r3 = 0 then K7 (q.1, (q.2.1 + 1), q.2.2) else (wrI q.2.2 63 12 (q.2.2.1 61 3) q.2.1).bind fun M5 => (wrF M5 61 3 ((M5.1 61 3) + 1)).bind fun M7 => K7 (q.1, (q.2.1 + 1), M7))) := rfl
theorem eFX8_listTurning (N : Nat) (x1 : Int32) (M : Mm) : FX8_listTurning N x1 M = (wrF M 61 3 0).bind fun M1 => lp (BX8_listTurning_7 N) N (x1, 0, M1) := rfl
set_option maxRecDepth 20000 in
theorem tX8_listTurning_7 {l : Launch} {G : va_G} {tc : Nat → ClassId} {D : Nat → Nat} {N : Nat} : ∀ (nn : Nat) (q : Int32 × Int32 × Mm) (R : Mm), lp (BX8_listTurning_7 N) nn q = some R → WP l G tc D lay (fun _ => True) RX8 cX8_listTurning 3 rX8_listTurning (.code yX8_listTurning cX8_listTurning 3 none) 7 [some (.ref 61), some (.int q.1), some (.int q.2.1)] [] q.2.2 (RetQ cX8_listTurning none (RQV R)) := by
  refine lp_ind (fun K7 hK7q q R h => ?_)
  have hK7 : ∀ (z0 : Int32) (z1 : Int32) (z2 : Mm) (R : Mm), K7 (z0, z1, z2) = some R → WP l G tc D lay (fun _ => True) RX8 cX8_listTurning 3 rX8_listTurning (.code yX8_listTurning cX8_listTurning 3 none) 7 [some (.ref 61), some (.int z0), some (.int z1)] [] z2 (RetQ cX8_listTurning none (RQV R)) := fun z0 z1 z2 R hh => hK7q (z0, z1, z2) R hh
  unfold BX8_listTurning_7 at h
  refine WP.iload_n dX8_listTurning_7 rfl rfl ?_
  refine WP.bipush (v := 12) dX8_listTurning_8 (by decide) ?_
  refine WP.icmp_ge (tgt := 47) dX8_listTurning_10 (by decide) (fun c1 => ?_) (fun c1 => ?_)
  · rw [if_pos c1] at h
    cases h
    exact WP.vret dX8_listTurning_47 ⟨rfl, rfl⟩
  · rw [if_neg c1] at h
    refine WP.iload_n dX8_listTurning_13 rfl rfl ?_
    refine WP.iload_n dX8_listTurning_14 rfl rfl ?_
    obtain ⟨r3, h2, h⟩ := Option.bind_eq_some_iff.mp h
    refine WP.callNI [.int q.1, .int q.2.1] dX8_listTurning_15 lk_X8_82 rfl (Nat.le_of_ble_eq_true rfl) (by decide) (Nat.le_of_ble_eq_true rfl) rfl (TX9_hasBit h2) ?_
    refine WP.if_eq (tgt := 41) dX8_listTurning_18 (by decide) (fun c4 => ?_) (fun c4 => ?_)
    · rw [if_pos c4] at h
      refine WP.iinc (v := (q.2.1 + 1)) dX8_listTurning_41 rfl rfl (by decide) rfl rfl ?_
      refine WP.goto (tgt := 7) dX8_listTurning_44 (by decide) ?_
      refine WP.fgt [true, true, true] rfl ?_
      exact hK7 q.1 (q.2.1 + 1) q.2.2 _ h
    · rw [if_neg c4] at h
      refine WP.aload_n dX8_listTurning_21 rfl rfl ?_
      refine WP.getR (j := 1) dX8_listTurning_22 rfl rfl in_X8 (by decide) wd_284 rfl ?_
      refine WP.aload_n dX8_listTurning_25 rfl rfl ?_
      refine WP.getI (j := 3) dX8_listTurning_26 rfl rfl in_X8 (by decide) wd_286 rfl ?_
      refine WP.iload_n dX8_listTurning_29 rfl rfl ?_
      obtain ⟨M5, h6, h⟩ := Option.bind_eq_some_iff.mp h
      refine WP.iastQ dX8_listTurning_30 rfl h6 ?_
      refine WP.aload_n dX8_listTurning_31 rfl rfl ?_
      refine WP.dup dX8_listTurning_32 rfl ?_
      refine WP.getI (j := 3) dX8_listTurning_33 rfl rfl in_X8 (by decide) wd_286 rfl ?_
      refine WP.iconst (v := 1) dX8_listTurning_36 (by decide) ?_
      refine WP.iadd dX8_listTurning_37 ?_
      obtain ⟨M7, h8, h⟩ := Option.bind_eq_some_iff.mp h
      refine WP.putF (j := 3) (ty := .int) dX8_listTurning_38 rfl rfl in_X8 tyX8_ok nmX8 (by decide) wd_286 rfl (by decide +kernel) rfl rfl rfl h8 ?_
      refine WP.iinc (v := (q.2.1 + 1)) dX8_listTurning_41 rfl rfl (by decide) rfl rfl ?_
      refine WP.goto (tgt := 7) dX8_listTurning_44 (by decide) ?_
      refine WP.fgt [true, true, true] rfl ?_
      exact hK7 q.1 (q.2.1 + 1) M7 _ h
theorem uX8_listTurning_7 {l : Launch} {G : va_G} {tc : Nat → ClassId} {D : Nat → Nat} {N : Nat} (nn : Nat) : ∀ (z0 : Int32) (z1 : Int32) (z2 : Mm) (R : Mm), lp (BX8_listTurning_7 N) nn (z0, z1, z2) = some R → WP l G tc D lay (fun _ => True) RX8 cX8_listTurning 3 rX8_listTurning (.code yX8_listTurning cX8_listTurning 3 none) 7 [some (.ref 61), some (.int z0), some (.int z1)] [] z2 (RetQ cX8_listTurning none (RQV R)) := fun z0 z1 z2 R hh => tX8_listTurning_7  nn (z0, z1, z2) R hh
set_option maxRecDepth 20000 in
theorem TX8_listTurning {l : Launch} {G : va_G} {tc : Nat → ClassId} {D : Nat → Nat} {N : Nat} {x1 : Int32} {M : Mm} {R : Mm} (h : FX8_listTurning N x1 M = some R) : WP l G tc D lay (fun _ => True) yX8_listTurning.cls cX8_listTurning 3 rX8_listTurning (.code yX8_listTurning cX8_listTurning 3 none) 0 (entL 3 [.ref 61, .int x1]) [] M (RetQ cX8_listTurning none (RQV R)) := by
  show WP l G tc D lay (fun _ => True) RX8 cX8_listTurning 3 rX8_listTurning (.code yX8_listTurning cX8_listTurning 3 none) 0 [some (.ref 61), some (.int x1), none] [] M (RetQ cX8_listTurning none (RQV R))
  unfold FX8_listTurning at h
  refine WP.aload_n dX8_listTurning_0 rfl rfl ?_
  refine WP.iconst (v := 0) dX8_listTurning_1 (by decide) ?_
  obtain ⟨M1, h2, h⟩ := Option.bind_eq_some_iff.mp h
  refine WP.putF (j := 3) (ty := .int) dX8_listTurning_2 rfl rfl in_X8 tyX8_ok nmX8 (by decide) wd_286 rfl (by decide +kernel) rfl rfl rfl h2 ?_
  refine WP.iconst (v := 0) dX8_listTurning_5 (by decide) ?_
  refine WP.istore_n dX8_listTurning_6 rfl (by decide) rfl rfl ?_
  refine WP.fgt [true, true, true] rfl ?_
  exact uX8_listTurning_7  N x1 0 M1 _ h
/-! X8_turnRow -/
def rX8_turnRow : Room := { frames := 0, cells := 0, slots := 0, locals := 0 }
def BX8_turnRow_9 (N : Nat) (K9 : Int32 × Int32 × Mm → Option (Int32 × Mm)) (q : Int32 × Int32 × Mm) : Option (Int32 × Mm) :=
  (if q.2.1 < 0 then some (q.1, q.2.2) else (rdI q.2.2 63 12 q.2.1).bind fun v2 => (rdI q.2.2 62 12 v2).bind fun v4 => (if v4 = (-2000000000) then (rdI q.2.2 3 12 v2).bind fun v18 => (wrI q.2.2 62 12 v2 v18).bind fun M20 => some ((q.1 ||| ((1 : Int32) <<< (v2 &&& 31))), M20) else (rdI q.2.2 62 12 v2).bind fun v7 => (rdI q.2.2 4 12 v2).bind fun v9 => (if v9 ≤ v7 then (wrI q.2.2 62 12 v2 (-2000000000)).bind fun M12 => K9 ((q.1 ||| ((1 : Int32) <<< (v2 &&& 31))), (q.2.1 + (-1)), M12) else (rdI q.2.2 62 12 v2).bind fun v14 => (wrI q.2.2 62 12 v2 (v14 + 1)).bind fun M16 => some ((q.1 ||| ((1 : Int32) <<< (v2 &&& 31))), M16))))
def FX8_turnRow (N : Nat) (M : Mm) : Option (Int32 × Mm) :=
  lp (BX8_turnRow_9 N) N (0, ((M.1 61 3) - 1), M)
theorem eBX8_turnRow_9 (N : Nat) (K9 : Int32 × Int32 × Mm → Option (Int32 × Mm)) (q : Int32 × Int32 × Mm) : BX8_turnRow_9 N K9 q = (if q.2.1 < 0 then some (q.1, q.2.2) else (rdI q.2.2 63 12 q.2.1).bind fun v2 => (rdI q.2.2 62 12 v2).bind fun v4 => (if v4 = (-2000000000) then (rdI q.2.2 3 12 v2).bind fun v18 => (wrI q.2.2 62 12 v2 v18).bind fun M20 => some ((q.1 ||| ((1 : Int32) <<< (v2 &&& 31))), M20) else (rdI q.2.2 62 12 v2).bind fun v7 => (rdI q.2.2 4 12 v2).bind fun v9 => (if v9 ≤ v7 then (wrI q.2.2 62 12 v2 (-2000000000)).bind fun M12 => K9 ((q.1 ||| ((1 : Int32) <<< (v2 &&& 31))), (q.2.1 + (-1)), M12) else (rdI q.2.2 62 12 v2).bind fun v14 => (wrI q.2.2 62 12 v2 (v14 + 1)).bind fun M16 => some ((q.1 ||| ((1 : Int32) <<< (v2 &&& 31))), M16)))) := rfl
theorem eFX8_turnRow (N : Nat) (M : Mm) : FX8_turnRow N M = lp (BX8_turnRow_9 N) N (0, ((M.1 61 3) - 1), M) := rfl
set_option maxRecDepth 20000 in
theorem tX8_turnRow_9 {l : Launch} {G : va_G} {tc : Nat → ClassId} {D : Nat → Nat} {N : Nat} : ∀ (nn : Nat) (q : Int32 × Int32 × Mm) (R : (Int32 × Mm)), lp (BX8_turnRow_9 N) nn q = some R → WP l G tc D lay (fun _ => True) RX8 cX8_turnRow 5 rX8_turnRow (.code yX8_turnRow cX8_turnRow 5 (some .int)) 9 [some (.ref 61), some (.ref 2), some (.int q.1), some (.int q.2.1), none] [] q.2.2 (RetQ cX8_turnRow (some .int) (RQI R.1 R.2)) := by
  refine lp_ind (fun K9 hK9q q R h => ?_)
  have hK9 : ∀ (z0 : Int32) (z1 : Int32) (z2 : Mm) (R : (Int32 × Mm)), K9 (z0, z1, z2) = some R → WP l G tc D lay (fun _ => True) RX8 cX8_turnRow 5 rX8_turnRow (.code yX8_turnRow cX8_turnRow 5 (some .int)) 9 [some (.ref 61), some (.ref 2), some (.int z0), some (.int z1), none] [] z2 (RetQ cX8_turnRow (some .int) (RQI R.1 R.2)) := fun z0 z1 z2 R hh => hK9q (z0, z1, z2) R hh
  unfold BX8_turnRow_9 at h
  refine WP.iload_n dX8_turnRow_9 rfl rfl ?_
  refine WP.if_lt (tgt := 101) dX8_turnRow_10 (by decide) (fun c1 => ?_) (fun c1 => ?_)
  · rw [if_pos c1] at h
    refine WP.iload_n dX8_turnRow_101 rfl rfl ?_
    cases h
    exact WP.iret dX8_turnRow_102 ⟨rfl, rfl⟩
  · rw [if_neg c1] at h
    refine WP.aload_n dX8_turnRow_13 rfl rfl ?_
    refine WP.getR (j := 1) dX8_turnRow_14 rfl rfl in_X8 (by decide) wd_284 rfl ?_
    refine WP.iload_n dX8_turnRow_17 rfl rfl ?_
    obtain ⟨v2, h3, h⟩ := Option.bind_eq_some_iff.mp h
    refine WP.ialdQ dX8_turnRow_18 rfl h3 ?_
    refine WP.istore dX8_turnRow_19 (by decide) rfl rfl ?_
    refine WP.iload_n dX8_turnRow_21 rfl rfl ?_
    refine WP.iconst (v := 1) dX8_turnRow_22 (by decide) ?_
    refine WP.iload dX8_turnRow_23 rfl ?_
    refine WP.ishl dX8_turnRow_25 ?_
    refine WP.ior dX8_turnRow_26 ?_
    refine WP.istore_n dX8_turnRow_27 rfl (by decide) rfl rfl ?_
    refine WP.aload_n dX8_turnRow_28 rfl rfl ?_
    refine WP.getR (j := 0) dX8_turnRow_29 rfl rfl in_X8 (by decide) wd_282 rfl ?_
    refine WP.iload dX8_turnRow_32 rfl ?_
    obtain ⟨v4, h5, h⟩ := Option.bind_eq_some_iff.mp h
    refine WP.ialdQ dX8_turnRow_34 rfl h5 ?_
    refine WP.ldc (v := (-2000000000)) dX8_turnRow_35 wd_280 ?_
    refine WP.icmp_ne (tgt := 56) dX8_turnRow_37 (by decide) (fun c6 => ?_) (fun c6 => ?_)
    · rw [if_neg c6] at h
      refine WP.aload_n dX8_turnRow_56 rfl rfl ?_
      refine WP.getR (j := 0) dX8_turnRow_57 rfl rfl in_X8 (by decide) wd_282 rfl ?_
      refine WP.iload dX8_turnRow_60 rfl ?_
      obtain ⟨v7, h8, h⟩ := Option.bind_eq_some_iff.mp h
      refine WP.ialdQ dX8_turnRow_62 rfl h8 ?_
      refine WP.aload_n dX8_turnRow_63 rfl rfl ?_
      refine WP.getR (j := 1) dX8_turnRow_64 rfl rfl in_X0 (by decide) wd_86 rfl ?_
      refine WP.iload dX8_turnRow_67 rfl ?_
      obtain ⟨v9, h10, h⟩ := Option.bind_eq_some_iff.mp h
      refine WP.ialdQ dX8_turnRow_69 rfl h10 ?_
      refine WP.icmp_ge (tgt := 86) dX8_turnRow_70 (by decide) (fun c11 => ?_) (fun c11 => ?_)
      · rw [if_pos c11] at h
        refine WP.aload_n dX8_turnRow_86 rfl rfl ?_
        refine WP.getR (j := 0) dX8_turnRow_87 rfl rfl in_X8 (by decide) wd_282 rfl ?_
        refine WP.iload dX8_turnRow_90 rfl ?_
        refine WP.ldc (v := (-2000000000)) dX8_turnRow_92 wd_280 ?_
        obtain ⟨M12, h13, h⟩ := Option.bind_eq_some_iff.mp h
        refine WP.iastQ dX8_turnRow_94 rfl h13 ?_
        refine WP.iinc (v := (q.2.1 + (-1))) dX8_turnRow_95 rfl rfl (by decide) rfl rfl ?_
        refine WP.goto (tgt := 9) dX8_turnRow_98 (by decide) ?_
        refine WP.fgt [true, true, true, true, false] rfl ?_
        exact hK9 (q.1 ||| ((1 : Int32) <<< (v2 &&& 31))) (q.2.1 + (-1)) M12 _ h
      · rw [if_neg c11] at h
        refine WP.aload_n dX8_turnRow_73 rfl rfl ?_
        refine WP.getR (j := 0) dX8_turnRow_74 rfl rfl in_X8 (by decide) wd_282 rfl ?_
        refine WP.iload dX8_turnRow_77 rfl ?_
        refine WP.dup2 dX8_turnRow_79 rfl rfl ?_
        obtain ⟨v14, h15, h⟩ := Option.bind_eq_some_iff.mp h
        refine WP.ialdQ dX8_turnRow_80 rfl h15 ?_
        refine WP.iconst (v := 1) dX8_turnRow_81 (by decide) ?_
        refine WP.iadd dX8_turnRow_82 ?_
        obtain ⟨M16, h17, h⟩ := Option.bind_eq_some_iff.mp h
        refine WP.iastQ dX8_turnRow_83 rfl h17 ?_
        refine WP.iload_n dX8_turnRow_84 rfl rfl ?_
        cases h
        exact WP.iret dX8_turnRow_85 ⟨rfl, rfl⟩
    · rw [if_pos c6] at h
      refine WP.aload_n dX8_turnRow_40 rfl rfl ?_
      refine WP.getR (j := 0) dX8_turnRow_41 rfl rfl in_X8 (by decide) wd_282 rfl ?_
      refine WP.iload dX8_turnRow_44 rfl ?_
      refine WP.aload_n dX8_turnRow_46 rfl rfl ?_
      refine WP.getR (j := 0) dX8_turnRow_47 rfl rfl in_X0 (by decide) wd_82 rfl ?_
      refine WP.iload dX8_turnRow_50 rfl ?_
      obtain ⟨v18, h19, h⟩ := Option.bind_eq_some_iff.mp h
      refine WP.ialdQ dX8_turnRow_52 rfl h19 ?_
      obtain ⟨M20, h21, h⟩ := Option.bind_eq_some_iff.mp h
      refine WP.iastQ dX8_turnRow_53 rfl h21 ?_
      refine WP.iload_n dX8_turnRow_54 rfl rfl ?_
      cases h
      exact WP.iret dX8_turnRow_55 ⟨rfl, rfl⟩
theorem uX8_turnRow_9 {l : Launch} {G : va_G} {tc : Nat → ClassId} {D : Nat → Nat} {N : Nat} (nn : Nat) : ∀ (z0 : Int32) (z1 : Int32) (z2 : Mm) (R : (Int32 × Mm)), lp (BX8_turnRow_9 N) nn (z0, z1, z2) = some R → WP l G tc D lay (fun _ => True) RX8 cX8_turnRow 5 rX8_turnRow (.code yX8_turnRow cX8_turnRow 5 (some .int)) 9 [some (.ref 61), some (.ref 2), some (.int z0), some (.int z1), none] [] z2 (RetQ cX8_turnRow (some .int) (RQI R.1 R.2)) := fun z0 z1 z2 R hh => tX8_turnRow_9  nn (z0, z1, z2) R hh
set_option maxRecDepth 20000 in
theorem TX8_turnRow {l : Launch} {G : va_G} {tc : Nat → ClassId} {D : Nat → Nat} {N : Nat} {M : Mm} {R : (Int32 × Mm)} (h : FX8_turnRow N M = some R) : WP l G tc D lay (fun _ => True) yX8_turnRow.cls cX8_turnRow 5 rX8_turnRow (.code yX8_turnRow cX8_turnRow 5 (some .int)) 0 (entL 5 [.ref 61, .ref 2]) [] M (RetQ cX8_turnRow (some .int) (RQI R.1 R.2)) := by
  show WP l G tc D lay (fun _ => True) RX8 cX8_turnRow 5 rX8_turnRow (.code yX8_turnRow cX8_turnRow 5 (some .int)) 0 [some (.ref 61), some (.ref 2), none, none, none] [] M (RetQ cX8_turnRow (some .int) (RQI R.1 R.2))
  unfold FX8_turnRow at h
  refine WP.iconst (v := 0) dX8_turnRow_0 (by decide) ?_
  refine WP.istore_n dX8_turnRow_1 rfl (by decide) rfl rfl ?_
  refine WP.aload_n dX8_turnRow_2 rfl rfl ?_
  refine WP.getI (j := 3) dX8_turnRow_3 rfl rfl in_X8 (by decide) wd_286 rfl ?_
  refine WP.iconst (v := 1) dX8_turnRow_6 (by decide) ?_
  refine WP.isub dX8_turnRow_7 ?_
  refine WP.istore_n dX8_turnRow_8 rfl (by decide) rfl rfl ?_
  refine WP.fgt [true, true, true, true, false] rfl ?_
  exact uX8_turnRow_9  N 0 ((M.1 61 3) - 1) M _ h
/-! X8_run -/
def rX8_run : Room := { frames := 5, cells := 0, slots := 0, locals := 113 }
def BX8_run_145 (N : Nat) (a2 : Int32) (M : Mm) : Option (Int32 × Mm) :=
  (rdI M 66 12 a2).bind fun v1 => (FX9_truth v1 M).bind fun r4 => some (r4, M)
def BX8_run_124 (N : Nat) (a2 : Int32) (M : Mm) : Option (Int32 × Mm) :=
  (rdI M 66 12 a2).bind fun v1 => (if v1 = 0 then (FJ7_fill_53178 N 62 12 (-2000000000) M).bind fun M5 => BX8_run_145 N a2 M5 else BX8_run_145 N a2 M)
def BX8_run_70 (N : Nat) (K70 : Int32 × Int32 × Mm → Option (Int32 × Mm)) (q : Int32 × Int32 × Mm) : Option (Int32 × Mm) :=
  (rdI q.2.2 66 12 q.1).bind fun v1 => (if v1 = 0 then (if q.2.1 ≤ (q.2.2.1 61 4) then BX8_run_124 N q.1 q.2.2 else (FX8_turnRow N q.2.2).bind fun p6 => (FX6_lookAgain N 64 62 p6.1 p6.2).bind fun M8 => (wrF M8 61 4 ((M8.1 61 4) + 1)).bind fun M9 => K70 (q.1, q.2.1, M9)) else BX8_run_124 N q.1 q.2.2)
def FX8_run (N : Nat) (x2 : Int32) (M : Mm) : Option (Int32 × Mm) :=
  (rdI M 20 12 x2).bind fun v1 => (FX0_askedBits N M).bind fun r4 => (FX8_countRows N (v1 &&& r4) M).bind fun r6 => (if r6 ≤ 20000 then (FX8_listTurning N (v1 &&& r4) M).bind fun M9 => (FJ7_fill_53178 N 62 12 (-2000000000) M9).bind fun M11 => (FX6_look N 64 62 M11).bind fun M13 => (wrF M13 61 4 1).bind fun M14 => lp (BX8_run_70 N) N (x2, r6, M14) else some ((-6), M))
theorem eBX8_run_145 (N : Nat) (a2 : Int32) (M : Mm) : BX8_run_145 N a2 M = (rdI M 66 12 a2).bind fun v1 => (FX9_truth v1 M).bind fun r4 => some (r4, M) := rfl
theorem eBX8_run_124 (N : Nat) (a2 : Int32) (M : Mm) : BX8_run_124 N a2 M = (rdI M 66 12 a2).bind fun v1 => (if v1 = 0 then (FJ7_fill_53178 N 62 12 (-2000000000) M).bind fun M5 => BX8_run_145 N a2 M5 else BX8_run_145 N a2 M) := rfl
theorem eBX8_run_70 (N : Nat) (K70 : Int32 × Int32 × Mm → Option (Int32 × Mm)) (q : Int32 × Int32 × Mm) : BX8_run_70 N K70 q = (rdI q.2.2 66 12 q.1).bind fun v1 => (if v1 = 0 then (if q.2.1 ≤ (q.2.2.1 61 4) then BX8_run_124 N q.1 q.2.2 else (FX8_turnRow N q.2.2).bind fun p6 => (FX6_lookAgain N 64 62 p6.1 p6.2).bind fun M8 => (wrF M8 61 4 ((M8.1 61 4) + 1)).bind fun M9 => K70 (q.1, q.2.1, M9)) else BX8_run_124 N q.1 q.2.2) := rfl
theorem eFX8_run (N : Nat) (x2 : Int32) (M : Mm) : FX8_run N x2 M = (rdI M 20 12 x2).bind fun v1 => (FX0_askedBits N M).bind fun r4 => (FX8_countRows N (v1 &&& r4) M).bind fun r6 => (if r6 ≤ 20000 then (FX8_listTurning N (v1 &&& r4) M).bind fun M9 => (FJ7_fill_53178 N 62 12 (-2000000000) M9).bind fun M11 => (FX6_look N 64 62 M11).bind fun M13 => (wrF M13 61 4 1).bind fun M14 => lp (BX8_run_70 N) N (x2, r6, M14) else some ((-6), M)) := rfl
set_option maxRecDepth 20000 in
theorem tX8_run_145 {l : Launch} {G : va_G} {tc : Nat → ClassId} {D : Nat → Nat} {N : Nat} {a2 : Int32} {M : Mm} {R : (Int32 × Mm)} (h : BX8_run_145 N a2 M = some R) : WP l G tc D lay (fun _ => True) RX8 cX8_run 5 rX8_run (.code yX8_run cX8_run 5 (some .int)) 145 [some (.ref 61), none, some (.int a2), none, none] [] M (RetQ cX8_run (some .int) (RQI R.1 R.2)) := by
  unfold BX8_run_145 at h
  refine WP.aload_n dX8_run_145 rfl rfl ?_
  refine WP.getR (j := 2) dX8_run_146 rfl rfl in_X8 (by decide) wd_285 rfl ?_
  refine WP.getR (j := 1) dX8_run_149 rfl rfl in_X6 (by decide) wd_215 rfl ?_
  refine WP.iload_n dX8_run_152 rfl rfl ?_
  obtain ⟨v1, h2, h⟩ := Option.bind_eq_some_iff.mp h
  refine WP.zaldQ dX8_run_153 rfl h2 ?_
  obtain ⟨r4, h3, h⟩ := Option.bind_eq_some_iff.mp h
  refine WP.callNI [.int v1] dX8_run_154 lk_X8_75 rfl (Nat.le_of_ble_eq_true rfl) (by decide) (Nat.le_of_ble_eq_true rfl) rfl (TX9_truth h3) ?_
  cases h
  exact WP.iret dX8_run_157 ⟨rfl, rfl⟩
set_option maxRecDepth 20000 in
theorem tX8_run_124 {l : Launch} {G : va_G} {tc : Nat → ClassId} {D : Nat → Nat} {N : Nat} {a2 : Int32} {M : Mm} {R : (Int32 × Mm)} (h : BX8_run_124 N a2 M = some R) : WP l G tc D lay (fun _ => True) RX8 cX8_run 5 rX8_run (.code yX8_run cX8_run 5 (some .int)) 124 [some (.ref 61), none, some (.int a2), none, none] [] M (RetQ cX8_run (some .int) (RQI R.1 R.2)) := by
  unfold BX8_run_124 at h
  refine WP.aload_n dX8_run_124 rfl rfl ?_
  refine WP.getR (j := 2) dX8_run_125 rfl rfl in_X8 (by decide) wd_285 rfl ?_
  refine WP.getR (j := 1) dX8_run_128 rfl rfl in_X6 (by decide) wd_215 rfl ?_
  refine WP.iload_n dX8_run_131 rfl rfl ?_
  obtain ⟨v1, h2, h⟩ := Option.bind_eq_some_iff.mp h
  refine WP.zaldQ dX8_run_132 rfl h2 ?_
  refine WP.if_ne (tgt := 145) dX8_run_133 (by decide) (fun c3 => ?_) (fun c3 => ?_)
  · rw [if_neg c3] at h
    refine WP.fgt [true, false, true, false, false] rfl ?_
    exact tX8_run_145  h
  · rw [if_pos c3] at h
    refine WP.aload_n dX8_run_136 rfl rfl ?_
    refine WP.getR (j := 0) dX8_run_137 rfl rfl in_X8 (by decide) wd_282 rfl ?_
    refine WP.ldc (v := (-2000000000)) dX8_run_140 wd_280 ?_
    obtain ⟨M5, h4, h⟩ := Option.bind_eq_some_iff.mp h
    refine WP.callSV [.ref 62, .int (-2000000000)] dX8_run_142 lk_X8_26 rfl (Nat.le_of_ble_eq_true rfl) (by decide) (Nat.le_of_ble_eq_true rfl) rfl (TJ7_fill_53178 (k1 := 62) (n := 12) rfl h4) ?_
    refine WP.fgt [true, false, true, false, false] rfl ?_
    exact tX8_run_145  h
set_option maxRecDepth 20000 in
theorem tX8_run_70 {l : Launch} {G : va_G} {tc : Nat → ClassId} {D : Nat → Nat} {N : Nat} : ∀ (nn : Nat) (q : Int32 × Int32 × Mm) (R : (Int32 × Mm)), lp (BX8_run_70 N) nn q = some R → WP l G tc D lay (fun _ => True) RX8 cX8_run 5 rX8_run (.code yX8_run cX8_run 5 (some .int)) 70 [some (.ref 61), some (.ref 1), some (.int q.1), none, some (.int q.2.1)] [] q.2.2 (RetQ cX8_run (some .int) (RQI R.1 R.2)) := by
  refine lp_ind (fun K70 hK70q q R h => ?_)
  have hK70 : ∀ (z0 : Int32) (z1 : Int32) (z2 : Mm) (R : (Int32 × Mm)), K70 (z0, z1, z2) = some R → WP l G tc D lay (fun _ => True) RX8 cX8_run 5 rX8_run (.code yX8_run cX8_run 5 (some .int)) 70 [some (.ref 61), some (.ref 1), some (.int z0), none, some (.int z1)] [] z2 (RetQ cX8_run (some .int) (RQI R.1 R.2)) := fun z0 z1 z2 R hh => hK70q (z0, z1, z2) R hh
  unfold BX8_run_70 at h
  refine WP.aload_n dX8_run_70 rfl rfl ?_
  refine WP.getR (j := 2) dX8_run_71 rfl rfl in_X8 (by decide) wd_285 rfl ?_
  refine WP.getR (j := 1) dX8_run_74 rfl rfl in_X6 (by decide) wd_215 rfl ?_
  refine WP.iload_n dX8_run_77 rfl rfl ?_
  obtain ⟨v1, h2, h⟩ := Option.bind_eq_some_iff.mp h
  refine WP.zaldQ dX8_run_78 rfl h2 ?_
  refine WP.if_ne (tgt := 124) dX8_run_79 (by decide) (fun c3 => ?_) (fun c3 => ?_)
  · rw [if_neg c3] at h
    refine WP.fgt [true, false, true, false, false] rfl ?_
    exact tX8_run_124  h
  · rw [if_pos c3] at h
    refine WP.aload_n dX8_run_82 rfl rfl ?_
    refine WP.getI (j := 4) dX8_run_83 rfl rfl in_X8 (by decide) wd_287 rfl ?_
    refine WP.iload dX8_run_86 rfl ?_
    refine WP.icmp_ge (tgt := 124) dX8_run_88 (by decide) (fun c4 => ?_) (fun c4 => ?_)
    · rw [if_pos c4] at h
      refine WP.fgt [true, false, true, false, false] rfl ?_
      exact tX8_run_124  h
    · rw [if_neg c4] at h
      refine WP.aload_n dX8_run_91 rfl rfl ?_
      refine WP.getR (j := 2) dX8_run_92 rfl rfl in_X8 (by decide) wd_285 rfl ?_
      refine WP.aload_n dX8_run_95 rfl rfl ?_
      refine WP.aload_n dX8_run_96 rfl rfl ?_
      refine WP.getR (j := 0) dX8_run_97 rfl rfl in_X8 (by decide) wd_282 rfl ?_
      refine WP.aload_n dX8_run_100 rfl rfl ?_
      refine WP.aload_n dX8_run_101 rfl rfl ?_
      refine WP.getR (j := 0) dX8_run_102 rfl rfl in_X2 (by decide) wd_160 rfl ?_
      obtain ⟨p6, h5, h⟩ := Option.bind_eq_some_iff.mp h
      refine WP.callVI [.ref 2] dX8_run_105 lk_X8_67 rfl rfl rfl (Nat.le_of_ble_eq_true rfl) (by decide) (Nat.le_of_ble_eq_true rfl) rfl (TX8_turnRow h5) ?_
      obtain ⟨M8, h7, h⟩ := Option.bind_eq_some_iff.mp h
      refine WP.callVV [.ref 1, .ref 62, .int p6.1] dX8_run_108 lk_X8_71 rfl rfl rfl (Nat.le_of_ble_eq_true rfl) (by decide) (Nat.le_of_ble_eq_true rfl) rfl (TX6_lookAgain (s := 64) (k2 := 62) rfl rfl rfl rfl rfl h7) ?_
      refine WP.aload_n dX8_run_111 rfl rfl ?_
      refine WP.dup dX8_run_112 rfl ?_
      refine WP.getI (j := 4) dX8_run_113 rfl rfl in_X8 (by decide) wd_287 rfl ?_
      refine WP.iconst (v := 1) dX8_run_116 (by decide) ?_
      refine WP.iadd dX8_run_117 ?_
      obtain ⟨M9, h10, h⟩ := Option.bind_eq_some_iff.mp h
      refine WP.putF (j := 4) (ty := .int) dX8_run_118 rfl rfl in_X8 tyX8_ok nmX8 (by decide) wd_287 rfl (by decide +kernel) rfl rfl rfl h10 ?_
      refine WP.goto (tgt := 70) dX8_run_121 (by decide) ?_
      refine WP.fgt [true, true, true, false, true] rfl ?_
      exact hK70 q.1 q.2.1 M9 _ h
theorem uX8_run_70 {l : Launch} {G : va_G} {tc : Nat → ClassId} {D : Nat → Nat} {N : Nat} (nn : Nat) : ∀ (z0 : Int32) (z1 : Int32) (z2 : Mm) (R : (Int32 × Mm)), lp (BX8_run_70 N) nn (z0, z1, z2) = some R → WP l G tc D lay (fun _ => True) RX8 cX8_run 5 rX8_run (.code yX8_run cX8_run 5 (some .int)) 70 [some (.ref 61), some (.ref 1), some (.int z0), none, some (.int z1)] [] z2 (RetQ cX8_run (some .int) (RQI R.1 R.2)) := fun z0 z1 z2 R hh => tX8_run_70  nn (z0, z1, z2) R hh
set_option maxRecDepth 20000 in
theorem TX8_run {l : Launch} {G : va_G} {tc : Nat → ClassId} {D : Nat → Nat} {N : Nat} {x2 : Int32} {M : Mm} {R : (Int32 × Mm)} (h : FX8_run N x2 M = some R) : WP l G tc D lay (fun _ => True) yX8_run.cls cX8_run 5 rX8_run (.code yX8_run cX8_run 5 (some .int)) 0 (entL 5 [.ref 61, .ref 1, .int x2]) [] M (RetQ cX8_run (some .int) (RQI R.1 R.2)) := by
  show WP l G tc D lay (fun _ => True) RX8 cX8_run 5 rX8_run (.code yX8_run cX8_run 5 (some .int)) 0 [some (.ref 61), some (.ref 1), some (.int x2), none, none] [] M (RetQ cX8_run (some .int) (RQI R.1 R.2))
  unfold FX8_run at h
  refine WP.aload_n dX8_run_0 rfl rfl ?_
  refine WP.getR (j := 0) dX8_run_1 rfl rfl in_X2 (by decide) wd_160 rfl ?_
  refine WP.getR (j := 5) dX8_run_4 rfl rfl in_X0 (by decide) wd_102 rfl ?_
  refine WP.iload_n dX8_run_7 rfl rfl ?_
  obtain ⟨v1, h2, h⟩ := Option.bind_eq_some_iff.mp h
  refine WP.ialdQ dX8_run_8 rfl h2 ?_
  refine WP.aload_n dX8_run_9 rfl rfl ?_
  refine WP.getR (j := 0) dX8_run_10 rfl rfl in_X2 (by decide) wd_160 rfl ?_
  obtain ⟨r4, h3, h⟩ := Option.bind_eq_some_iff.mp h
  refine WP.callVI [] dX8_run_13 lk_X8_43 rfl rfl rfl (Nat.le_of_ble_eq_true rfl) (by decide) (Nat.le_of_ble_eq_true rfl) rfl (TX0_askedBits h3) ?_
  refine WP.iand dX8_run_16 ?_
  refine WP.istore_n dX8_run_17 rfl (by decide) rfl rfl ?_
  refine WP.aload_n dX8_run_18 rfl rfl ?_
  refine WP.getR (j := 0) dX8_run_19 rfl rfl in_X2 (by decide) wd_160 rfl ?_
  refine WP.iload_n dX8_run_22 rfl rfl ?_
  obtain ⟨r6, h5, h⟩ := Option.bind_eq_some_iff.mp h
  refine WP.callSI [.ref 2, .int (v1 &&& r4)] dX8_run_23 lk_X8_47 rfl (Nat.le_of_ble_eq_true rfl) (by decide) (Nat.le_of_ble_eq_true rfl) rfl (TX8_countRows h5) ?_
  refine WP.istore dX8_run_26 (by decide) rfl rfl ?_
  refine WP.iload dX8_run_28 rfl ?_
  refine WP.sipush (v := 20000) dX8_run_30 (by decide) ?_
  refine WP.icmp_le (tgt := 39) dX8_run_33 (by decide) (fun c7 => ?_) (fun c7 => ?_)
  · rw [if_pos c7] at h
    refine WP.aload_n dX8_run_39 rfl rfl ?_
    refine WP.iload_n dX8_run_40 rfl rfl ?_
    obtain ⟨M9, h8, h⟩ := Option.bind_eq_some_iff.mp h
    refine WP.callVV [.int (v1 &&& r4)] dX8_run_41 lk_X8_51 rfl rfl rfl (Nat.le_of_ble_eq_true rfl) (by decide) (Nat.le_of_ble_eq_true rfl) rfl (TX8_listTurning h8) ?_
    refine WP.aload_n dX8_run_44 rfl rfl ?_
    refine WP.getR (j := 0) dX8_run_45 rfl rfl in_X8 (by decide) wd_282 rfl ?_
    refine WP.ldc (v := (-2000000000)) dX8_run_48 wd_280 ?_
    obtain ⟨M11, h10, h⟩ := Option.bind_eq_some_iff.mp h
    refine WP.callSV [.ref 62, .int (-2000000000)] dX8_run_50 lk_X8_26 rfl (Nat.le_of_ble_eq_true rfl) (by decide) (Nat.le_of_ble_eq_true rfl) rfl (TJ7_fill_53178 (k1 := 62) (n := 12) rfl h10) ?_
    refine WP.aload_n dX8_run_53 rfl rfl ?_
    refine WP.getR (j := 2) dX8_run_54 rfl rfl in_X8 (by decide) wd_285 rfl ?_
    refine WP.aload_n dX8_run_57 rfl rfl ?_
    refine WP.aload_n dX8_run_58 rfl rfl ?_
    refine WP.getR (j := 0) dX8_run_59 rfl rfl in_X8 (by decide) wd_282 rfl ?_
    obtain ⟨M13, h12, h⟩ := Option.bind_eq_some_iff.mp h
    refine WP.callVV [.ref 1, .ref 62] dX8_run_62 lk_X8_55 rfl rfl rfl (Nat.le_of_ble_eq_true rfl) (by decide) (Nat.le_of_ble_eq_true rfl) rfl (TX6_look (s := 64) (k2 := 62) rfl rfl rfl rfl rfl h12) ?_
    refine WP.aload_n dX8_run_65 rfl rfl ?_
    refine WP.iconst (v := 1) dX8_run_66 (by decide) ?_
    obtain ⟨M14, h15, h⟩ := Option.bind_eq_some_iff.mp h
    refine WP.putF (j := 4) (ty := .int) dX8_run_67 rfl rfl in_X8 tyX8_ok nmX8 (by decide) wd_287 rfl (by decide +kernel) rfl rfl rfl h15 ?_
    refine WP.fgt [true, true, true, false, true] rfl ?_
    exact uX8_run_70  N x2 r6 M14 _ h
  · rw [if_neg c7] at h
    refine WP.bipush (v := (-6)) dX8_run_36 (by decide) ?_
    cases h
    exact WP.iret dX8_run_38 ⟨rfl, rfl⟩
