/-! ===== the law from its loop on: by program ===== -/
def rdS (xs : Nat → Int32) (Ln : Nat) (i : Int32) : Option Int32 := if i < 0 ∨ Ln ≤ i.toNatClampNeg then none else some (xs i.toNatClampNeg)
theorem rdS_ok {xs : Nat → Int32} {Ln : Nat} {i v : Int32} (h : rdS xs Ln i = some v) : vp_in i Ln ∧ xs i.toNatClampNeg = v := by
  unfold rdS at h
  by_cases c : i < 0 ∨ Ln ≤ i.toNatClampNeg
  · rw [if_pos c] at h; cases h
  · rw [if_neg c] at h; exact ⟨c, Option.some.inj h⟩
section WPS
variable {l : Launch} {G : va_G} {tc : Nat → ClassId} {D : Nat → Nat} {L : List LC} {EX : State → Prop} {own : String} {cc : ByteArray} {nL : Nat} {rm : Room} {wc : Cond} {pc : Nat} {lv : List (Option Value)} {st : List Value} {M : Mm} {Q : Nat → List (Option Value) → List Value → Mm → Prop} {a Ln : Nat} {xs : Nat → Int32}
theorem WP.sld (hx : ∀ s, EX s → va_X (D a) Ln xs s s.heap ∧ D a < s.heap.size ∧ ¬ inA D L (D a)) {i v : Int32} (hd : decode cc pc = .ok (.iaload, 1)) (hv : rdS xs Ln i = some v) (k : WP l G tc D L EX own cc nL rm wc (pc + 1) lv (.int v :: st) M Q) : WP l G tc D L EX own cc nL rm wc pc lv (.int i :: .ref a :: st) M Q := by
  obtain ⟨h1, h2⟩ := rdS_ok hv
  subst h2
  intro p e s m args below meth c cells slots Z hC hQ H locs ls hH
  obtain ⟨e1, e2, e3⟩ := hx s hC.2.2.2.2.2.2.2.1
  exact va_sld hC.1 hC.2.1 e1 e2 e3 hH.2.1 h1 hd (k p e s m args below meth c cells slots Z hC hQ H locs ls hH)
theorem WP.slen (hx : ∀ s, EX s → va_X (D a) Ln xs s s.heap ∧ D a < s.heap.size ∧ ¬ inA D L (D a)) (hd : decode cc pc = .ok (.arraylength, 1)) (k : WP l G tc D L EX own cc nL rm wc (pc + 1) lv (.int (Int32.ofNat Ln) :: st) M Q) : WP l G tc D L EX own cc nL rm wc pc lv (.ref a :: st) M Q := by
  intro p e s m args below meth c cells slots Z hC hQ H locs ls hH
  obtain ⟨e1, e2, e3⟩ := hx s hC.2.2.2.2.2.2.2.1
  exact va_slen hC.1 hC.2.1 e1 e2 e3 hH.2.1 hd (k p e s m args below meth c cells slots Z hC hQ H locs ls hH)
end WPS
def BL_law_18 (N : Nat) (xs : Nat → Int32) (Ln : Nat) (K18 : Int32 × Mm → Option (Int32 × Mm)) (q : Int32 × Mm) : Option (Int32 × Mm) :=
  (if ((Int32.ofNat Ln) - 5) < q.1 then some (1, q.2) else (rdS xs Ln q.1).bind fun v2 => (if (v2 &&& 31) = 0 then (rdS xs Ln (q.1 + 1)).bind fun v5 => (rdS xs Ln (q.1 + 2)).bind fun v7 => (rdS xs Ln (q.1 + 3)).bind fun v9 => (FX9_field N v5 v7 v9 q.2).bind fun p12 => (rdS xs Ln (q.1 + 1)).bind fun v13 => (rdS xs Ln (q.1 + 2)).bind fun v15 => (rdS xs Ln (q.1 + 3)).bind fun v17 => (FX10_field N v13 v15 v17 p12.2).bind fun p20 => (if p12.1 = p20.1 then K18 ((q.1 + 5), p20.2) else some (0, p20.2)) else (if (v2 &&& 31) = 1 then (rdS xs Ln (q.1 + 1)).bind fun v23 => (rdS xs Ln (q.1 + 2)).bind fun v25 => (rdS xs Ln (q.1 + 3)).bind fun v27 => (rdS xs Ln (q.1 + 4)).bind fun v29 => (FX9_part N v23 v25 v27 v29 q.2).bind fun p32 => (rdS xs Ln (q.1 + 1)).bind fun v33 => (rdS xs Ln (q.1 + 2)).bind fun v35 => (rdS xs Ln (q.1 + 3)).bind fun v37 => (rdS xs Ln (q.1 + 4)).bind fun v39 => (FX10_part v33 v35 v37 v39 p32.2).bind fun p42 => (if p32.1 = p42.1 then K18 ((q.1 + 5), p42.2) else some (0, p42.2)) else (if (v2 &&& 31) = 2 then (rdS xs Ln (q.1 + 1)).bind fun v45 => (rdS xs Ln (q.1 + 2)).bind fun v47 => (rdS xs Ln (q.1 + 3)).bind fun v49 => (FX9_rule N v45 v47 v49 q.2).bind fun p52 => (rdS xs Ln (q.1 + 1)).bind fun v53 => (rdS xs Ln (q.1 + 2)).bind fun v55 => (rdS xs Ln (q.1 + 3)).bind fun v57 => (FX10_rule N v53 v55 v57 p52.2).bind fun p60 => (if p52.1 = p60.1 then K18 ((q.1 + 5), p60.2) else some (0, p60.2)) else (if (v2 &&& 31) = 3 then (rdS xs Ln (q.1 + 1)).bind fun v63 => (FX9_ring v63 q.2).bind fun r66 => (rdS xs Ln (q.1 + 1)).bind fun v67 => (FX10_ring v67 q.2).bind fun r70 => (if r66 = r70 then K18 ((q.1 + 5), q.2) else some (0, q.2)) else (if (v2 &&& 31) = 4 then (rdS xs Ln (q.1 + 1)).bind fun v73 => (rdS xs Ln (q.1 + 2)).bind fun v75 => (FX9_about N v73 v75 q.2).bind fun r78 => (rdS xs Ln (q.1 + 1)).bind fun v79 => (rdS xs Ln (q.1 + 2)).bind fun v81 => (FX10_about N v79 v81 q.2).bind fun p84 => (if r78 = p84.1 then K18 ((q.1 + 5), p84.2) else some (0, p84.2)) else (if (v2 &&& 31) = 5 then (rdS xs Ln (q.1 + 1)).bind fun v87 => (rdS xs Ln (q.1 + 2)).bind fun v89 => (FX9_hangs v87 v89 q.2).bind fun r92 => (rdS xs Ln (q.1 + 1)).bind fun v93 => (rdS xs Ln (q.1 + 2)).bind fun v95 => (FX10_hangs N v93 v95 q.2).bind fun p98 => (if r92 = p98.1 then K18 ((q.1 + 5), p98.2) else some (0, p98.2)) else (if (v2 &&& 31) = 6 then (rdS xs Ln (q.1 + 1)).bind fun v101 => (rdS xs Ln (q.1 + 2)).bind fun v103 => (rdS xs Ln (q.1 + 3)).bind fun v105 => (FX9_answer N v101 v103 v105 q.2).bind fun p108 => (rdS xs Ln (q.1 + 1)).bind fun v109 => (rdS xs Ln (q.1 + 2)).bind fun v111 => (rdS xs Ln (q.1 + 3)).bind fun v113 => (FX10_answer N v109 v111 v113 p108.2).bind fun p116 => (if p108.1 = p116.1 then K18 ((q.1 + 5), p116.2) else some (0, p116.2)) else (if (v2 &&& 31) = 7 then (rdS xs Ln (q.1 + 1)).bind fun v119 => (rdS xs Ln (q.1 + 2)).bind fun v121 => (FX9_clear N v119 v121 q.2).bind fun p124 => (rdS xs Ln (q.1 + 1)).bind fun v125 => (rdS xs Ln (q.1 + 2)).bind fun v127 => (FX10_clear N v125 v127 p124.2).bind fun p130 => (if p124.1 = p130.1 then K18 ((q.1 + 5), p130.2) else some (0, p130.2)) else (if (v2 &&& 31) = 8 then (rdS xs Ln (q.1 + 1)).bind fun v133 => (rdS xs Ln (q.1 + 2)).bind fun v135 => (FX9_kept N v133 v135 q.2).bind fun p138 => (rdS xs Ln (q.1 + 1)).bind fun v139 => (rdS xs Ln (q.1 + 2)).bind fun v141 => (FX10_kept N v139 v141 p138.2).bind fun p144 => (if p138.1 = p144.1 then K18 ((q.1 + 5), p144.2) else some (0, p144.2)) else (if (v2 &&& 31) = 9 then (rdS xs Ln (q.1 + 1)).bind fun v147 => (rdS xs Ln (q.1 + 2)).bind fun v149 => (FX9_counts N v147 v149 q.2).bind fun p152 => (rdS xs Ln (q.1 + 1)).bind fun v153 => (rdS xs Ln (q.1 + 2)).bind fun v155 => (FX10_counts N v153 v155 p152.2).bind fun p158 => (if p152.1 = p158.1 then K18 ((q.1 + 5), p158.2) else some (0, p158.2)) else (if (v2 &&& 31) = 10 then (rdS xs Ln (q.1 + 1)).bind fun v161 => (rdS xs Ln (q.1 + 2)).bind fun v163 => (FX9_status N v161 v163 q.2).bind fun p166 => (rdS xs Ln (q.1 + 1)).bind fun v167 => (rdS xs Ln (q.1 + 2)).bind fun v169 => (FX10_status N v167 v169 p166.2).bind fun p172 => (if p166.1 = p172.1 then K18 ((q.1 + 5), p172.2) else some (0, p172.2)) else (if (v2 &&& 31) = 11 then (rdS xs Ln (q.1 + 1)).bind fun v175 => (FX9_done N v175 q.2).bind fun p178 => (rdS xs Ln (q.1 + 1)).bind fun v179 => (FX10_done N v179 p178.2).bind fun p182 => (if p178.1 = p182.1 then K18 ((q.1 + 5), p182.2) else some (0, p182.2)) else (if (v2 &&& 31) = 12 then (rdS xs Ln (q.1 + 1)).bind fun v185 => (rdS xs Ln (q.1 + 2)).bind fun v187 => (FX9_value N v185 v187 q.2).bind fun p190 => (rdS xs Ln (q.1 + 1)).bind fun v191 => (rdS xs Ln (q.1 + 2)).bind fun v193 => (FX10_value N v191 v193 p190.2).bind fun p196 => (if p190.1 = p196.1 then K18 ((q.1 + 5), p196.2) else some (0, p196.2)) else (if (v2 &&& 31) = 13 then (rdS xs Ln (q.1 + 1)).bind fun v199 => (rdS xs Ln (q.1 + 2)).bind fun v201 => (FX9_copy N v199 v201 q.2).bind fun p204 => (rdS xs Ln (q.1 + 1)).bind fun v205 => (rdS xs Ln (q.1 + 2)).bind fun v207 => (FX10_copy N v205 v207 p204.2).bind fun p210 => (if p204.1 = p210.1 then K18 ((q.1 + 5), p210.2) else some (0, p210.2)) else (if (v2 &&& 31) = 14 then (rdS xs Ln (q.1 + 1)).bind fun v213 => (rdS xs Ln (q.1 + 2)).bind fun v215 => (rdS xs Ln (q.1 + 3)).bind fun v217 => (rdS xs Ln (q.1 + 4)).bind fun v219 => (FX9_join N v213 v215 v217 v219 q.2).bind fun p222 => (rdS xs Ln (q.1 + 1)).bind fun v223 => (rdS xs Ln (q.1 + 2)).bind fun v225 => (rdS xs Ln (q.1 + 3)).bind fun v227 => (rdS xs Ln (q.1 + 4)).bind fun v229 => (FX10_join N v223 v225 v227 v229 p222.2).bind fun p232 => (if p222.1 = p232.1 then K18 ((q.1 + 5), p232.2) else some (0, p232.2)) else (if (v2 &&& 31) = 15 then (rdS xs Ln (q.1 + 1)).bind fun v235 => (FX9_odds v235 q.2).bind fun r238 => (rdS xs Ln (q.1 + 1)).bind fun v239 => (FX10_odds v239 q.2).bind fun r242 => (if r238 = r242 then K18 ((q.1 + 5), q.2) else some (0, q.2)) else (if (v2 &&& 31) = 16 then (rdS xs Ln (q.1 + 1)).bind fun v245 => (rdS xs Ln (q.1 + 2)).bind fun v247 => (FX9_seal N v245 v247 q.2).bind fun p250 => (rdS xs Ln (q.1 + 1)).bind fun v251 => (rdS xs Ln (q.1 + 2)).bind fun v253 => (FX10_seal N v251 v253 p250.2).bind fun p256 => (if p250.1 = p256.1 then K18 ((q.1 + 5), p256.2) else some (0, p256.2)) else (if (v2 &&& 31) = 17 then (rdS xs Ln (q.1 + 1)).bind fun v259 => (FX9_open v259 q.2).bind fun p262 => (rdS xs Ln (q.1 + 1)).bind fun v263 => (FX10_open v263 p262.2).bind fun p266 => (if p262.1 = p266.1 then K18 ((q.1 + 5), p266.2) else some (0, p266.2)) else (if (v2 &&& 31) = 18 then (rdS xs Ln (q.1 + 1)).bind fun v269 => (rdS xs Ln (q.1 + 2)).bind fun v271 => (FX9_sealed N v269 v271 q.2).bind fun p274 => (rdS xs Ln (q.1 + 1)).bind fun v275 => (rdS xs Ln (q.1 + 2)).bind fun v277 => (FX10_sealed N v275 v277 p274.2).bind fun p280 => (if p274.1 = p280.1 then K18 ((q.1 + 5), p280.2) else some (0, p280.2)) else (if (v2 &&& 31) = 19 then (rdS xs Ln (q.1 + 1)).bind fun v283 => (FX9_reach N v283 q.2).bind fun p286 => (rdS xs Ln (q.1 + 1)).bind fun v287 => (FX10_reach N v287 p286.2).bind fun p290 => (if p286.1 = p290.1 then K18 ((q.1 + 5), p290.2) else some (0, p290.2)) else (if (v2 &&& 31) = 20 then (rdS xs Ln (q.1 + 1)).bind fun v293 => (FX9_found v293 q.2).bind fun r296 => (rdS xs Ln (q.1 + 1)).bind fun v297 => (FX10_found v297 q.2).bind fun r300 => (if r296 = r300 then K18 ((q.1 + 5), q.2) else some (0, q.2)) else (if (v2 &&& 31) = 21 then (FX9_tried q.2).bind fun r304 => (FX10_tried q.2).bind fun r306 => (if r304 = r306 then K18 ((q.1 + 5), q.2) else some (0, q.2)) else (if (v2 &&& 31) = 22 then (rdS xs Ln (q.1 + 1)).bind fun v309 => (FX9_told N v309 q.2).bind fun p312 => (rdS xs Ln (q.1 + 1)).bind fun v313 => (FX10_told N v313 p312.2).bind fun p316 => (if p312.1 = p316.1 then K18 ((q.1 + 5), p316.2) else some (0, p316.2)) else (if (v2 &&& 31) = 23 then (rdS xs Ln (q.1 + 1)).bind fun v319 => (FX9_tell v319 q.2).bind fun p322 => (rdS xs Ln (q.1 + 1)).bind fun v323 => (FX10_tell v323 p322.2).bind fun p326 => (if p322.1 = p326.1 then K18 ((q.1 + 5), p326.2) else some (0, p326.2)) else (if (v2 &&& 31) = 24 then (rdS xs Ln (q.1 + 1)).bind fun v329 => (FX9_address v329 q.2).bind fun p332 => (rdS xs Ln (q.1 + 1)).bind fun v333 => (FX10_address v333 p332.2).bind fun p336 => (if p332.1 = p336.1 then K18 ((q.1 + 5), p336.2) else some (0, p336.2)) else (if (v2 &&& 31) = 25 then (FX9_trace q.2).bind fun r340 => (FX10_trace q.2).bind fun r342 => (if r340 = r342 then K18 ((q.1 + 5), q.2) else some (0, q.2)) else K18 ((q.1 + 5), q.2))))))))))))))))))))))))))))
def FL_law (N : Nat) (xs : Nat → Int32) (Ln : Nat) (M : Mm) : Option (Int32 × Mm) :=
  lp (BL_law_18 N xs Ln) N (0, M)
theorem eBL_law_18 (N : Nat) (xs : Nat → Int32) (Ln : Nat) (K18 : Int32 × Mm → Option (Int32 × Mm)) (q : Int32 × Mm) : BL_law_18 N xs Ln K18 q = (if ((Int32.ofNat Ln) - 5) < q.1 then some (1, q.2) else (rdS xs Ln q.1).bind fun v2 => (if (v2 &&& 31) = 0 then (rdS xs Ln (q.1 + 1)).bind fun v5 => (rdS xs Ln (q.1 + 2)).bind fun v7 => (rdS xs Ln (q.1 + 3)).bind fun v9 => (FX9_field N v5 v7 v9 q.2).bind fun p12 => (rdS xs Ln (q.1 + 1)).bind fun v13 => (rdS xs Ln (q.1 + 2)).bind fun v15 => (rdS xs Ln (q.1 + 3)).bind fun v17 => (FX10_field N v13 v15 v17 p12.2).bind fun p20 => (if p12.1 = p20.1 then K18 ((q.1 + 5), p20.2) else some (0, p20.2)) else (if (v2 &&& 31) = 1 then (rdS xs Ln (q.1 + 1)).bind fun v23 => (rdS xs Ln (q.1 + 2)).bind fun v25 => (rdS xs Ln (q.1 + 3)).bind fun v27 => (rdS xs Ln (q.1 + 4)).bind fun v29 => (FX9_part N v23 v25 v27 v29 q.2).bind fun p32 => (rdS xs Ln (q.1 + 1)).bind fun v33 => (rdS xs Ln (q.1 + 2)).bind fun v35 => (rdS xs Ln (q.1 + 3)).bind fun v37 => (rdS xs Ln (q.1 + 4)).bind fun v39 => (FX10_part v33 v35 v37 v39 p32.2).bind fun p42 => (if p32.1 = p42.1 then K18 ((q.1 + 5), p42.2) else some (0, p42.2)) else (if (v2 &&& 31) = 2 then (rdS xs Ln (q.1 + 1)).bind fun v45 => (rdS xs Ln (q.1 + 2)).bind fun v47 => (rdS xs Ln (q.1 + 3)).bind fun v49 => (FX9_rule N v45 v47 v49 q.2).bind fun p52 => (rdS xs Ln (q.1 + 1)).bind fun v53 => (rdS xs Ln (q.1 + 2)).bind fun v55 => (rdS xs Ln (q.1 + 3)).bind fun v57 => (FX10_rule N v53 v55 v57 p52.2).bind fun p60 => (if p52.1 = p60.1 then K18 ((q.1 + 5), p60.2) else some (0, p60.2)) else (if (v2 &&& 31) = 3 then (rdS xs Ln (q.1 + 1)).bind fun v63 => (FX9_ring v63 q.2).bind fun r66 => (rdS xs Ln (q.1 + 1)).bind fun v67 => (FX10_ring v67 q.2).bind fun r70 => (if r66 = r70 then K18 ((q.1 + 5), q.2) else some (0, q.2)) else (if (v2 &&& 31) = 4 then (rdS xs Ln (q.1 + 1)).bind fun v73 => (rdS xs Ln (q.1 + 2)).bind fun v75 => (FX9_about N v73 v75 q.2).bind fun r78 => (rdS xs Ln (q.1 + 1)).bind fun v79 => (rdS xs Ln (q.1 + 2)).bind fun v81 => (FX10_about N v79 v81 q.2).bind fun p84 => (if r78 = p84.1 then K18 ((q.1 + 5), p84.2) else some (0, p84.2)) else (if (v2 &&& 31) = 5 then (rdS xs Ln (q.1 + 1)).bind fun v87 => (rdS xs Ln (q.1 + 2)).bind fun v89 => (FX9_hangs v87 v89 q.2).bind fun r92 => (rdS xs Ln (q.1 + 1)).bind fun v93 => (rdS xs Ln (q.1 + 2)).bind fun v95 => (FX10_hangs N v93 v95 q.2).bind fun p98 => (if r92 = p98.1 then K18 ((q.1 + 5), p98.2) else some (0, p98.2)) else (if (v2 &&& 31) = 6 then (rdS xs Ln (q.1 + 1)).bind fun v101 => (rdS xs Ln (q.1 + 2)).bind fun v103 => (rdS xs Ln (q.1 + 3)).bind fun v105 => (FX9_answer N v101 v103 v105 q.2).bind fun p108 => (rdS xs Ln (q.1 + 1)).bind fun v109 => (rdS xs Ln (q.1 + 2)).bind fun v111 => (rdS xs Ln (q.1 + 3)).bind fun v113 => (FX10_answer N v109 v111 v113 p108.2).bind fun p116 => (if p108.1 = p116.1 then K18 ((q.1 + 5), p116.2) else some (0, p116.2)) else (if (v2 &&& 31) = 7 then (rdS xs Ln (q.1 + 1)).bind fun v119 => (rdS xs Ln (q.1 + 2)).bind fun v121 => (FX9_clear N v119 v121 q.2).bind fun p124 => (rdS xs Ln (q.1 + 1)).bind fun v125 => (rdS xs Ln (q.1 + 2)).bind fun v127 => (FX10_clear N v125 v127 p124.2).bind fun p130 => (if p124.1 = p130.1 then K18 ((q.1 + 5), p130.2) else some (0, p130.2)) else (if (v2 &&& 31) = 8 then (rdS xs Ln (q.1 + 1)).bind fun v133 => (rdS xs Ln (q.1 + 2)).bind fun v135 => (FX9_kept N v133 v135 q.2).bind fun p138 => (rdS xs Ln (q.1 + 1)).bind fun v139 => (rdS xs Ln (q.1 + 2)).bind fun v141 => (FX10_kept N v139 v141 p138.2).bind fun p144 => (if p138.1 = p144.1 then K18 ((q.1 + 5), p144.2) else some (0, p144.2)) else (if (v2 &&& 31) = 9 then (rdS xs Ln (q.1 + 1)).bind fun v147 => (rdS xs Ln (q.1 + 2)).bind fun v149 => (FX9_counts N v147 v149 q.2).bind fun p152 => (rdS xs Ln (q.1 + 1)).bind fun v153 => (rdS xs Ln (q.1 + 2)).bind fun v155 => (FX10_counts N v153 v155 p152.2).bind fun p158 => (if p152.1 = p158.1 then K18 ((q.1 + 5), p158.2) else some (0, p158.2)) else (if (v2 &&& 31) = 10 then (rdS xs Ln (q.1 + 1)).bind fun v161 => (rdS xs Ln (q.1 + 2)).bind fun v163 => (FX9_status N v161 v163 q.2).bind fun p166 => (rdS xs Ln (q.1 + 1)).bind fun v167 => (rdS xs Ln (q.1 + 2)).bind fun v169 => (FX10_status N v167 v169 p166.2).bind fun p172 => (if p166.1 = p172.1 then K18 ((q.1 + 5), p172.2) else some (0, p172.2)) else (if (v2 &&& 31) = 11 then (rdS xs Ln (q.1 + 1)).bind fun v175 => (FX9_done N v175 q.2).bind fun p178 => (rdS xs Ln (q.1 + 1)).bind fun v179 => (FX10_done N v179 p178.2).bind fun p182 => (if p178.1 = p182.1 then K18 ((q.1 + 5), p182.2) else some (0, p182.2)) else (if (v2 &&& 31) = 12 then (rdS xs Ln (q.1 + 1)).bind fun v185 => (rdS xs Ln (q.1 + 2)).bind fun v187 => (FX9_value N v185 v187 q.2).bind fun p190 => (rdS xs Ln (q.1 + 1)).bind fun v191 => (rdS xs Ln (q.1 + 2)).bind fun v193 => (FX10_value N v191 v193 p190.2).bind fun p196 => (if p190.1 = p196.1 then K18 ((q.1 + 5), p196.2) else some (0, p196.2)) else (if (v2 &&& 31) = 13 then (rdS xs Ln (q.1 + 1)).bind fun v199 => (rdS xs Ln (q.1 + 2)).bind fun v201 => (FX9_copy N v199 v201 q.2).bind fun p204 => (rdS xs Ln (q.1 + 1)).bind fun v205 => (rdS xs Ln (q.1 + 2)).bind fun v207 => (FX10_copy N v205 v207 p204.2).bind fun p210 => (if p204.1 = p210.1 then K18 ((q.1 + 5), p210.2) else some (0, p210.2)) else (if (v2 &&& 31) = 14 then (rdS xs Ln (q.1 + 1)).bind fun v213 => (rdS xs Ln (q.1 + 2)).bind fun v215 => (rdS xs Ln (q.1 + 3)).bind fun v217 => (rdS xs Ln (q.1 + 4)).bind fun v219 => (FX9_join N v213 v215 v217 v219 q.2).bind fun p222 => (rdS xs Ln (q.1 + 1)).bind fun v223 => (rdS xs Ln (q.1 + 2)).bind fun v225 => (rdS xs Ln (q.1 + 3)).bind fun v227 => (rdS xs Ln (q.1 + 4)).bind fun v229 => (FX10_join N v223 v225 v227 v229 p222.2).bind fun p232 => (if p222.1 = p232.1 then K18 ((q.1 + 5), p232.2) else some (0, p232.2)) else (if (v2 &&& 31) = 15 then (rdS xs Ln (q.1 + 1)).bind fun v235 => (FX9_odds v235 q.2).bind fun r238 => (rdS xs Ln (q.1 + 1)).bind fun v239 => (FX10_odds v239 q.2).bind fun r242 => (if r238 = r242 then K18 ((q.1 + 5), q.2) else some (0, q.2)) else (if (v2 &&& 31) = 16 then (rdS xs Ln (q.1 + 1)).bind fun v245 => (rdS xs Ln (q.1 + 2)).bind fun v247 => (FX9_seal N v245 v247 q.2).bind fun p250 => (rdS xs Ln (q.1 + 1)).bind fun v251 => (rdS xs Ln (q.1 + 2)).bind fun v253 => (FX10_seal N v251 v253 p250.2).bind fun p256 => (if p250.1 = p256.1 then K18 ((q.1 + 5), p256.2) else some (0, p256.2)) else (if (v2 &&& 31) = 17 then (rdS xs Ln (q.1 + 1)).bind fun v259 => (FX9_open v259 q.2).bind fun p262 => (rdS xs Ln (q.1 + 1)).bind fun v263 => (FX10_open v263 p262.2).bind fun p266 => (if p262.1 = p266.1 then K18 ((q.1 + 5), p266.2) else some (0, p266.2)) else (if (v2 &&& 31) = 18 then (rdS xs Ln (q.1 + 1)).bind fun v269 => (rdS xs Ln (q.1 + 2)).bind fun v271 => (FX9_sealed N v269 v271 q.2).bind fun p274 => (rdS xs Ln (q.1 + 1)).bind fun v275 => (rdS xs Ln (q.1 + 2)).bind fun v277 => (FX10_sealed N v275 v277 p274.2).bind fun p280 => (if p274.1 = p280.1 then K18 ((q.1 + 5), p280.2) else some (0, p280.2)) else (if (v2 &&& 31) = 19 then (rdS xs Ln (q.1 + 1)).bind fun v283 => (FX9_reach N v283 q.2).bind fun p286 => (rdS xs Ln (q.1 + 1)).bind fun v287 => (FX10_reach N v287 p286.2).bind fun p290 => (if p286.1 = p290.1 then K18 ((q.1 + 5), p290.2) else some (0, p290.2)) else (if (v2 &&& 31) = 20 then (rdS xs Ln (q.1 + 1)).bind fun v293 => (FX9_found v293 q.2).bind fun r296 => (rdS xs Ln (q.1 + 1)).bind fun v297 => (FX10_found v297 q.2).bind fun r300 => (if r296 = r300 then K18 ((q.1 + 5), q.2) else some (0, q.2)) else (if (v2 &&& 31) = 21 then (FX9_tried q.2).bind fun r304 => (FX10_tried q.2).bind fun r306 => (if r304 = r306 then K18 ((q.1 + 5), q.2) else some (0, q.2)) else (if (v2 &&& 31) = 22 then (rdS xs Ln (q.1 + 1)).bind fun v309 => (FX9_told N v309 q.2).bind fun p312 => (rdS xs Ln (q.1 + 1)).bind fun v313 => (FX10_told N v313 p312.2).bind fun p316 => (if p312.1 = p316.1 then K18 ((q.1 + 5), p316.2) else some (0, p316.2)) else (if (v2 &&& 31) = 23 then (rdS xs Ln (q.1 + 1)).bind fun v319 => (FX9_tell v319 q.2).bind fun p322 => (rdS xs Ln (q.1 + 1)).bind fun v323 => (FX10_tell v323 p322.2).bind fun p326 => (if p322.1 = p326.1 then K18 ((q.1 + 5), p326.2) else some (0, p326.2)) else (if (v2 &&& 31) = 24 then (rdS xs Ln (q.1 + 1)).bind fun v329 => (FX9_address v329 q.2).bind fun p332 => (rdS xs Ln (q.1 + 1)).bind fun v333 => (FX10_address v333 p332.2).bind fun p336 => (if p332.1 = p336.1 then K18 ((q.1 + 5), p336.2) else some (0, p336.2)) else (if (v2 &&& 31) = 25 then (FX9_trace q.2).bind fun r340 => (FX10_trace q.2).bind fun r342 => (if r340 = r342 then K18 ((q.1 + 5), q.2) else some (0, q.2)) else K18 ((q.1 + 5), q.2)))))))))))))))))))))))))))) := rfl
theorem eFL_law (N : Nat) (xs : Nat → Int32) (Ln : Nat) (M : Mm) : FL_law N xs Ln M = lp (BL_law_18 N xs Ln) N (0, M) := rfl
set_option maxRecDepth 20000 in
theorem tL_law_18 {l : Launch} {G : va_G} {tc : Nat → ClassId} {D : Nat → Nat} {N : Nat} {xs : Nat → Int32} {Ln : Nat} {EX : State → Prop} (hx : ∀ s, EX s → va_X (D 96) Ln xs s s.heap ∧ D 96 < s.heap.size ∧ ¬ inA D lay (D 96)) : ∀ (nn : Nat) (q : Int32 × Mm) (R : (Int32 × Mm)), lp (BL_law_18 N xs Ln) nn q = some R → WP l G tc D lay EX RL cL_law 4 room_1 (.initialized RL) 18 [some (.ref 96), some (.ref 0), some (.ref 69), some (.int q.1)] [] q.2 (RetQ cL_law (some .boolean) (RQI R.1 R.2)) := by
  refine lp_ind (fun K18 hK18q q R h => ?_)
  have hK18 : ∀ (z0 : Int32) (z1 : Mm) (R : (Int32 × Mm)), K18 (z0, z1) = some R → WP l G tc D lay EX RL cL_law 4 room_1 (.initialized RL) 18 [some (.ref 96), some (.ref 0), some (.ref 69), some (.int z0)] [] z1 (RetQ cL_law (some .boolean) (RQI R.1 R.2)) := fun z0 z1 R hh => hK18q (z0, z1) R hh
  unfold BL_law_18 at h
  refine WP.iload_n dL_law_18 rfl rfl ?_
  refine WP.aload_n dL_law_19 rfl rfl ?_
  refine WP.slen hx dL_law_20 ?_
  refine WP.iconst (v := 5) dL_law_21 (by decide) ?_
  refine WP.isub dL_law_22 ?_
  refine WP.icmp_gt (tgt := 956) dL_law_23 (by decide) (fun c1 => ?_) (fun c1 => ?_)
  · rw [if_pos c1] at h
    refine WP.iconst (v := 1) dL_law_956 (by decide) ?_
    cases h
    exact WP.zret dL_law_957 (by decide) ⟨rfl, rfl⟩
  · rw [if_neg c1] at h
    refine WP.aload_n dL_law_26 rfl rfl ?_
    refine WP.iload_n dL_law_27 rfl rfl ?_
    obtain ⟨v2, h3, h⟩ := Option.bind_eq_some_iff.mp h
    refine WP.sld hx dL_law_28 h3 ?_
    refine WP.bipush (v := 31) dL_law_29 (by decide) ?_
    refine WP.iand dL_law_31 ?_
    by_cases c4 : (v2 &&& 31) = 0
    · rw [if_pos c4] at h
      refine WP.tbl (off := 120) (tgt := 152) dL_law_32 (by rw [c4]; decide) (by decide) ?_
      refine WP.aload_n dL_law_152 rfl rfl ?_
      refine WP.aload_n dL_law_153 rfl rfl ?_
      refine WP.iload_n dL_law_154 rfl rfl ?_
      refine WP.iconst (v := 1) dL_law_155 (by decide) ?_
      refine WP.iadd dL_law_156 ?_
      obtain ⟨v5, h6, h⟩ := Option.bind_eq_some_iff.mp h
      refine WP.sld hx dL_law_157 h6 ?_
      refine WP.aload_n dL_law_158 rfl rfl ?_
      refine WP.iload_n dL_law_159 rfl rfl ?_
      refine WP.iconst (v := 2) dL_law_160 (by decide) ?_
      refine WP.iadd dL_law_161 ?_
      obtain ⟨v7, h8, h⟩ := Option.bind_eq_some_iff.mp h
      refine WP.sld hx dL_law_162 h8 ?_
      refine WP.aload_n dL_law_163 rfl rfl ?_
      refine WP.iload_n dL_law_164 rfl rfl ?_
      refine WP.iconst (v := 3) dL_law_165 (by decide) ?_
      refine WP.iadd dL_law_166 ?_
      obtain ⟨v9, h10, h⟩ := Option.bind_eq_some_iff.mp h
      refine WP.sld hx dL_law_167 h10 ?_
      obtain ⟨p12, h11, h⟩ := Option.bind_eq_some_iff.mp h
      refine WP.callVI [.int v5, .int v7, .int v9] dL_law_168 lk_L_13 rfl rfl rfl (Nat.le_of_ble_eq_true rfl) (by decide) (Nat.le_of_ble_eq_true rfl) rfl (TX9_field h11) ?_
      refine WP.aload_n dL_law_171 rfl rfl ?_
      refine WP.aload_n dL_law_172 rfl rfl ?_
      refine WP.iload_n dL_law_173 rfl rfl ?_
      refine WP.iconst (v := 1) dL_law_174 (by decide) ?_
      refine WP.iadd dL_law_175 ?_
      obtain ⟨v13, h14, h⟩ := Option.bind_eq_some_iff.mp h
      refine WP.sld hx dL_law_176 h14 ?_
      refine WP.aload_n dL_law_177 rfl rfl ?_
      refine WP.iload_n dL_law_178 rfl rfl ?_
      refine WP.iconst (v := 2) dL_law_179 (by decide) ?_
      refine WP.iadd dL_law_180 ?_
      obtain ⟨v15, h16, h⟩ := Option.bind_eq_some_iff.mp h
      refine WP.sld hx dL_law_181 h16 ?_
      refine WP.aload_n dL_law_182 rfl rfl ?_
      refine WP.iload_n dL_law_183 rfl rfl ?_
      refine WP.iconst (v := 3) dL_law_184 (by decide) ?_
      refine WP.iadd dL_law_185 ?_
      obtain ⟨v17, h18, h⟩ := Option.bind_eq_some_iff.mp h
      refine WP.sld hx dL_law_186 h18 ?_
      obtain ⟨p20, h19, h⟩ := Option.bind_eq_some_iff.mp h
      refine WP.callVI [.int v13, .int v15, .int v17] dL_law_187 lk_L_17 rfl rfl rfl (Nat.le_of_ble_eq_true rfl) (by decide) (Nat.le_of_ble_eq_true rfl) rfl (TX10_field h19) ?_
      refine WP.icmp_eq (tgt := 950) dL_law_190 (by decide) (fun c21 => ?_) (fun c21 => ?_)
      · rw [if_pos c21] at h
        refine WP.iinc (v := (q.1 + 5)) dL_law_950 rfl rfl (by decide) rfl rfl ?_
        refine WP.goto (tgt := 18) dL_law_953 (by decide) ?_
        refine WP.fgt [true, true, true, true] rfl ?_
        exact hK18 (q.1 + 5) p20.2 _ h
      · rw [if_neg c21] at h
        refine WP.iconst (v := 0) dL_law_193 (by decide) ?_
        cases h
        exact WP.zret dL_law_194 (by decide) ⟨rfl, rfl⟩
    · rw [if_neg c4] at h
      by_cases c22 : (v2 &&& 31) = 1
      · rw [if_pos c22] at h
        refine WP.tbl (off := 163) (tgt := 195) dL_law_32 (by rw [c22]; decide) (by decide) ?_
        refine WP.aload_n dL_law_195 rfl rfl ?_
        refine WP.aload_n dL_law_196 rfl rfl ?_
        refine WP.iload_n dL_law_197 rfl rfl ?_
        refine WP.iconst (v := 1) dL_law_198 (by decide) ?_
        refine WP.iadd dL_law_199 ?_
        obtain ⟨v23, h24, h⟩ := Option.bind_eq_some_iff.mp h
        refine WP.sld hx dL_law_200 h24 ?_
        refine WP.aload_n dL_law_201 rfl rfl ?_
        refine WP.iload_n dL_law_202 rfl rfl ?_
        refine WP.iconst (v := 2) dL_law_203 (by decide) ?_
        refine WP.iadd dL_law_204 ?_
        obtain ⟨v25, h26, h⟩ := Option.bind_eq_some_iff.mp h
        refine WP.sld hx dL_law_205 h26 ?_
        refine WP.aload_n dL_law_206 rfl rfl ?_
        refine WP.iload_n dL_law_207 rfl rfl ?_
        refine WP.iconst (v := 3) dL_law_208 (by decide) ?_
        refine WP.iadd dL_law_209 ?_
        obtain ⟨v27, h28, h⟩ := Option.bind_eq_some_iff.mp h
        refine WP.sld hx dL_law_210 h28 ?_
        refine WP.aload_n dL_law_211 rfl rfl ?_
        refine WP.iload_n dL_law_212 rfl rfl ?_
        refine WP.iconst (v := 4) dL_law_213 (by decide) ?_
        refine WP.iadd dL_law_214 ?_
        obtain ⟨v29, h30, h⟩ := Option.bind_eq_some_iff.mp h
        refine WP.sld hx dL_law_215 h30 ?_
        obtain ⟨p32, h31, h⟩ := Option.bind_eq_some_iff.mp h
        refine WP.callVI [.int v23, .int v25, .int v27, .int v29] dL_law_216 lk_L_18 rfl rfl rfl (Nat.le_of_ble_eq_true rfl) (by decide) (Nat.le_of_ble_eq_true rfl) rfl (TX9_part h31) ?_
        refine WP.aload_n dL_law_219 rfl rfl ?_
        refine WP.aload_n dL_law_220 rfl rfl ?_
        refine WP.iload_n dL_law_221 rfl rfl ?_
        refine WP.iconst (v := 1) dL_law_222 (by decide) ?_
        refine WP.iadd dL_law_223 ?_
        obtain ⟨v33, h34, h⟩ := Option.bind_eq_some_iff.mp h
        refine WP.sld hx dL_law_224 h34 ?_
        refine WP.aload_n dL_law_225 rfl rfl ?_
        refine WP.iload_n dL_law_226 rfl rfl ?_
        refine WP.iconst (v := 2) dL_law_227 (by decide) ?_
        refine WP.iadd dL_law_228 ?_
        obtain ⟨v35, h36, h⟩ := Option.bind_eq_some_iff.mp h
        refine WP.sld hx dL_law_229 h36 ?_
        refine WP.aload_n dL_law_230 rfl rfl ?_
        refine WP.iload_n dL_law_231 rfl rfl ?_
        refine WP.iconst (v := 3) dL_law_232 (by decide) ?_
        refine WP.iadd dL_law_233 ?_
        obtain ⟨v37, h38, h⟩ := Option.bind_eq_some_iff.mp h
        refine WP.sld hx dL_law_234 h38 ?_
        refine WP.aload_n dL_law_235 rfl rfl ?_
        refine WP.iload_n dL_law_236 rfl rfl ?_
        refine WP.iconst (v := 4) dL_law_237 (by decide) ?_
        refine WP.iadd dL_law_238 ?_
        obtain ⟨v39, h40, h⟩ := Option.bind_eq_some_iff.mp h
        refine WP.sld hx dL_law_239 h40 ?_
        obtain ⟨p42, h41, h⟩ := Option.bind_eq_some_iff.mp h
        refine WP.callVI [.int v33, .int v35, .int v37, .int v39] dL_law_240 lk_L_22 rfl rfl rfl (Nat.le_of_ble_eq_true rfl) (by decide) (Nat.le_of_ble_eq_true rfl) rfl (TX10_part h41) ?_
        refine WP.icmp_eq (tgt := 950) dL_law_243 (by decide) (fun c43 => ?_) (fun c43 => ?_)
        · rw [if_pos c43] at h
          refine WP.iinc (v := (q.1 + 5)) dL_law_950 rfl rfl (by decide) rfl rfl ?_
          refine WP.goto (tgt := 18) dL_law_953 (by decide) ?_
          refine WP.fgt [true, true, true, true] rfl ?_
          exact hK18 (q.1 + 5) p42.2 _ h
        · rw [if_neg c43] at h
          refine WP.iconst (v := 0) dL_law_246 (by decide) ?_
          cases h
          exact WP.zret dL_law_247 (by decide) ⟨rfl, rfl⟩
      · rw [if_neg c22] at h
        by_cases c44 : (v2 &&& 31) = 2
        · rw [if_pos c44] at h
          refine WP.tbl (off := 216) (tgt := 248) dL_law_32 (by rw [c44]; decide) (by decide) ?_
          refine WP.aload_n dL_law_248 rfl rfl ?_
          refine WP.aload_n dL_law_249 rfl rfl ?_
          refine WP.iload_n dL_law_250 rfl rfl ?_
          refine WP.iconst (v := 1) dL_law_251 (by decide) ?_
          refine WP.iadd dL_law_252 ?_
          obtain ⟨v45, h46, h⟩ := Option.bind_eq_some_iff.mp h
          refine WP.sld hx dL_law_253 h46 ?_
          refine WP.aload_n dL_law_254 rfl rfl ?_
          refine WP.iload_n dL_law_255 rfl rfl ?_
          refine WP.iconst (v := 2) dL_law_256 (by decide) ?_
          refine WP.iadd dL_law_257 ?_
          obtain ⟨v47, h48, h⟩ := Option.bind_eq_some_iff.mp h
          refine WP.sld hx dL_law_258 h48 ?_
          refine WP.aload_n dL_law_259 rfl rfl ?_
          refine WP.iload_n dL_law_260 rfl rfl ?_
          refine WP.iconst (v := 3) dL_law_261 (by decide) ?_
          refine WP.iadd dL_law_262 ?_
          obtain ⟨v49, h50, h⟩ := Option.bind_eq_some_iff.mp h
          refine WP.sld hx dL_law_263 h50 ?_
          obtain ⟨p52, h51, h⟩ := Option.bind_eq_some_iff.mp h
          refine WP.callVI [.int v45, .int v47, .int v49] dL_law_264 lk_L_23 rfl rfl rfl (Nat.le_of_ble_eq_true rfl) (by decide) (Nat.le_of_ble_eq_true rfl) rfl (TX9_rule h51) ?_
          refine WP.aload_n dL_law_267 rfl rfl ?_
          refine WP.aload_n dL_law_268 rfl rfl ?_
          refine WP.iload_n dL_law_269 rfl rfl ?_
          refine WP.iconst (v := 1) dL_law_270 (by decide) ?_
          refine WP.iadd dL_law_271 ?_
          obtain ⟨v53, h54, h⟩ := Option.bind_eq_some_iff.mp h
          refine WP.sld hx dL_law_272 h54 ?_
          refine WP.aload_n dL_law_273 rfl rfl ?_
          refine WP.iload_n dL_law_274 rfl rfl ?_
          refine WP.iconst (v := 2) dL_law_275 (by decide) ?_
          refine WP.iadd dL_law_276 ?_
          obtain ⟨v55, h56, h⟩ := Option.bind_eq_some_iff.mp h
          refine WP.sld hx dL_law_277 h56 ?_
          refine WP.aload_n dL_law_278 rfl rfl ?_
          refine WP.iload_n dL_law_279 rfl rfl ?_
          refine WP.iconst (v := 3) dL_law_280 (by decide) ?_
          refine WP.iadd dL_law_281 ?_
          obtain ⟨v57, h58, h⟩ := Option.bind_eq_some_iff.mp h
          refine WP.sld hx dL_law_282 h58 ?_
          obtain ⟨p60, h59, h⟩ := Option.bind_eq_some_iff.mp h
          refine WP.callVI [.int v53, .int v55, .int v57] dL_law_283 lk_L_26 rfl rfl rfl (Nat.le_of_ble_eq_true rfl) (by decide) (Nat.le_of_ble_eq_true rfl) rfl (TX10_rule h59) ?_
          refine WP.icmp_eq (tgt := 950) dL_law_286 (by decide) (fun c61 => ?_) (fun c61 => ?_)
          · rw [if_pos c61] at h
            refine WP.iinc (v := (q.1 + 5)) dL_law_950 rfl rfl (by decide) rfl rfl ?_
            refine WP.goto (tgt := 18) dL_law_953 (by decide) ?_
            refine WP.fgt [true, true, true, true] rfl ?_
            exact hK18 (q.1 + 5) p60.2 _ h
          · rw [if_neg c61] at h
            refine WP.iconst (v := 0) dL_law_289 (by decide) ?_
            cases h
            exact WP.zret dL_law_290 (by decide) ⟨rfl, rfl⟩
        · rw [if_neg c44] at h
          by_cases c62 : (v2 &&& 31) = 3
          · rw [if_pos c62] at h
            refine WP.tbl (off := 259) (tgt := 291) dL_law_32 (by rw [c62]; decide) (by decide) ?_
            refine WP.aload_n dL_law_291 rfl rfl ?_
            refine WP.aload_n dL_law_292 rfl rfl ?_
            refine WP.iload_n dL_law_293 rfl rfl ?_
            refine WP.iconst (v := 1) dL_law_294 (by decide) ?_
            refine WP.iadd dL_law_295 ?_
            obtain ⟨v63, h64, h⟩ := Option.bind_eq_some_iff.mp h
            refine WP.sld hx dL_law_296 h64 ?_
            obtain ⟨r66, h65, h⟩ := Option.bind_eq_some_iff.mp h
            refine WP.callVI [.int v63] dL_law_297 lk_L_27 rfl rfl rfl (Nat.le_of_ble_eq_true rfl) (by decide) (Nat.le_of_ble_eq_true rfl) rfl (TX9_ring h65) ?_
            refine WP.aload_n dL_law_300 rfl rfl ?_
            refine WP.aload_n dL_law_301 rfl rfl ?_
            refine WP.iload_n dL_law_302 rfl rfl ?_
            refine WP.iconst (v := 1) dL_law_303 (by decide) ?_
            refine WP.iadd dL_law_304 ?_
            obtain ⟨v67, h68, h⟩ := Option.bind_eq_some_iff.mp h
            refine WP.sld hx dL_law_305 h68 ?_
            obtain ⟨r70, h69, h⟩ := Option.bind_eq_some_iff.mp h
            refine WP.callVI [.int v67] dL_law_306 lk_L_31 rfl rfl rfl (Nat.le_of_ble_eq_true rfl) (by decide) (Nat.le_of_ble_eq_true rfl) rfl (TX10_ring h69) ?_
            refine WP.icmp_eq (tgt := 950) dL_law_309 (by decide) (fun c71 => ?_) (fun c71 => ?_)
            · rw [if_pos c71] at h
              refine WP.iinc (v := (q.1 + 5)) dL_law_950 rfl rfl (by decide) rfl rfl ?_
              refine WP.goto (tgt := 18) dL_law_953 (by decide) ?_
              refine WP.fgt [true, true, true, true] rfl ?_
              exact hK18 (q.1 + 5) q.2 _ h
            · rw [if_neg c71] at h
              refine WP.iconst (v := 0) dL_law_312 (by decide) ?_
              cases h
              exact WP.zret dL_law_313 (by decide) ⟨rfl, rfl⟩
          · rw [if_neg c62] at h
            by_cases c72 : (v2 &&& 31) = 4
            · rw [if_pos c72] at h
              refine WP.tbl (off := 282) (tgt := 314) dL_law_32 (by rw [c72]; decide) (by decide) ?_
              refine WP.aload_n dL_law_314 rfl rfl ?_
              refine WP.aload_n dL_law_315 rfl rfl ?_
              refine WP.iload_n dL_law_316 rfl rfl ?_
              refine WP.iconst (v := 1) dL_law_317 (by decide) ?_
              refine WP.iadd dL_law_318 ?_
              obtain ⟨v73, h74, h⟩ := Option.bind_eq_some_iff.mp h
              refine WP.sld hx dL_law_319 h74 ?_
              refine WP.aload_n dL_law_320 rfl rfl ?_
              refine WP.iload_n dL_law_321 rfl rfl ?_
              refine WP.iconst (v := 2) dL_law_322 (by decide) ?_
              refine WP.iadd dL_law_323 ?_
              obtain ⟨v75, h76, h⟩ := Option.bind_eq_some_iff.mp h
              refine WP.sld hx dL_law_324 h76 ?_
              obtain ⟨r78, h77, h⟩ := Option.bind_eq_some_iff.mp h
              refine WP.callVI [.int v73, .int v75] dL_law_325 lk_L_32 rfl rfl rfl (Nat.le_of_ble_eq_true rfl) (by decide) (Nat.le_of_ble_eq_true rfl) rfl (TX9_about h77) ?_
              refine WP.aload_n dL_law_328 rfl rfl ?_
              refine WP.aload_n dL_law_329 rfl rfl ?_
              refine WP.iload_n dL_law_330 rfl rfl ?_
              refine WP.iconst (v := 1) dL_law_331 (by decide) ?_
              refine WP.iadd dL_law_332 ?_
              obtain ⟨v79, h80, h⟩ := Option.bind_eq_some_iff.mp h
              refine WP.sld hx dL_law_333 h80 ?_
              refine WP.aload_n dL_law_334 rfl rfl ?_
              refine WP.iload_n dL_law_335 rfl rfl ?_
              refine WP.iconst (v := 2) dL_law_336 (by decide) ?_
              refine WP.iadd dL_law_337 ?_
              obtain ⟨v81, h82, h⟩ := Option.bind_eq_some_iff.mp h
              refine WP.sld hx dL_law_338 h82 ?_
              obtain ⟨p84, h83, h⟩ := Option.bind_eq_some_iff.mp h
              refine WP.callVI [.int v79, .int v81] dL_law_339 lk_L_36 rfl rfl rfl (Nat.le_of_ble_eq_true rfl) (by decide) (Nat.le_of_ble_eq_true rfl) rfl (TX10_about h83) ?_
              refine WP.icmp_eq (tgt := 950) dL_law_342 (by decide) (fun c85 => ?_) (fun c85 => ?_)
              · rw [if_pos c85] at h
                refine WP.iinc (v := (q.1 + 5)) dL_law_950 rfl rfl (by decide) rfl rfl ?_
                refine WP.goto (tgt := 18) dL_law_953 (by decide) ?_
                refine WP.fgt [true, true, true, true] rfl ?_
                exact hK18 (q.1 + 5) p84.2 _ h
              · rw [if_neg c85] at h
                refine WP.iconst (v := 0) dL_law_345 (by decide) ?_
                cases h
                exact WP.zret dL_law_346 (by decide) ⟨rfl, rfl⟩
            · rw [if_neg c72] at h
              by_cases c86 : (v2 &&& 31) = 5
              · rw [if_pos c86] at h
                refine WP.tbl (off := 315) (tgt := 347) dL_law_32 (by rw [c86]; decide) (by decide) ?_
                refine WP.aload_n dL_law_347 rfl rfl ?_
                refine WP.aload_n dL_law_348 rfl rfl ?_
                refine WP.iload_n dL_law_349 rfl rfl ?_
                refine WP.iconst (v := 1) dL_law_350 (by decide) ?_
                refine WP.iadd dL_law_351 ?_
                obtain ⟨v87, h88, h⟩ := Option.bind_eq_some_iff.mp h
                refine WP.sld hx dL_law_352 h88 ?_
                refine WP.aload_n dL_law_353 rfl rfl ?_
                refine WP.iload_n dL_law_354 rfl rfl ?_
                refine WP.iconst (v := 2) dL_law_355 (by decide) ?_
                refine WP.iadd dL_law_356 ?_
                obtain ⟨v89, h90, h⟩ := Option.bind_eq_some_iff.mp h
                refine WP.sld hx dL_law_357 h90 ?_
                obtain ⟨r92, h91, h⟩ := Option.bind_eq_some_iff.mp h
                refine WP.callVI [.int v87, .int v89] dL_law_358 lk_L_37 rfl rfl rfl (Nat.le_of_ble_eq_true rfl) (by decide) (Nat.le_of_ble_eq_true rfl) rfl (TX9_hangs h91) ?_
                refine WP.aload_n dL_law_361 rfl rfl ?_
                refine WP.aload_n dL_law_362 rfl rfl ?_
                refine WP.iload_n dL_law_363 rfl rfl ?_
                refine WP.iconst (v := 1) dL_law_364 (by decide) ?_
                refine WP.iadd dL_law_365 ?_
                obtain ⟨v93, h94, h⟩ := Option.bind_eq_some_iff.mp h
                refine WP.sld hx dL_law_366 h94 ?_
                refine WP.aload_n dL_law_367 rfl rfl ?_
                refine WP.iload_n dL_law_368 rfl rfl ?_
                refine WP.iconst (v := 2) dL_law_369 (by decide) ?_
                refine WP.iadd dL_law_370 ?_
                obtain ⟨v95, h96, h⟩ := Option.bind_eq_some_iff.mp h
                refine WP.sld hx dL_law_371 h96 ?_
                obtain ⟨p98, h97, h⟩ := Option.bind_eq_some_iff.mp h
                refine WP.callVI [.int v93, .int v95] dL_law_372 lk_L_40 rfl rfl rfl (Nat.le_of_ble_eq_true rfl) (by decide) (Nat.le_of_ble_eq_true rfl) rfl (TX10_hangs h97) ?_
                refine WP.icmp_eq (tgt := 950) dL_law_375 (by decide) (fun c99 => ?_) (fun c99 => ?_)
                · rw [if_pos c99] at h
                  refine WP.iinc (v := (q.1 + 5)) dL_law_950 rfl rfl (by decide) rfl rfl ?_
                  refine WP.goto (tgt := 18) dL_law_953 (by decide) ?_
                  refine WP.fgt [true, true, true, true] rfl ?_
                  exact hK18 (q.1 + 5) p98.2 _ h
                · rw [if_neg c99] at h
                  refine WP.iconst (v := 0) dL_law_378 (by decide) ?_
                  cases h
                  exact WP.zret dL_law_379 (by decide) ⟨rfl, rfl⟩
              · rw [if_neg c86] at h
                by_cases c100 : (v2 &&& 31) = 6
                · rw [if_pos c100] at h
                  refine WP.tbl (off := 348) (tgt := 380) dL_law_32 (by rw [c100]; decide) (by decide) ?_
                  refine WP.aload_n dL_law_380 rfl rfl ?_
                  refine WP.aload_n dL_law_381 rfl rfl ?_
                  refine WP.iload_n dL_law_382 rfl rfl ?_
                  refine WP.iconst (v := 1) dL_law_383 (by decide) ?_
                  refine WP.iadd dL_law_384 ?_
                  obtain ⟨v101, h102, h⟩ := Option.bind_eq_some_iff.mp h
                  refine WP.sld hx dL_law_385 h102 ?_
                  refine WP.aload_n dL_law_386 rfl rfl ?_
                  refine WP.iload_n dL_law_387 rfl rfl ?_
                  refine WP.iconst (v := 2) dL_law_388 (by decide) ?_
                  refine WP.iadd dL_law_389 ?_
                  obtain ⟨v103, h104, h⟩ := Option.bind_eq_some_iff.mp h
                  refine WP.sld hx dL_law_390 h104 ?_
                  refine WP.aload_n dL_law_391 rfl rfl ?_
                  refine WP.iload_n dL_law_392 rfl rfl ?_
                  refine WP.iconst (v := 3) dL_law_393 (by decide) ?_
                  refine WP.iadd dL_law_394 ?_
                  obtain ⟨v105, h106, h⟩ := Option.bind_eq_some_iff.mp h
                  refine WP.sld hx dL_law_395 h106 ?_
                  obtain ⟨p108, h107, h⟩ := Option.bind_eq_some_iff.mp h
                  refine WP.callVI [.int v101, .int v103, .int v105] dL_law_396 lk_L_41 rfl rfl rfl (Nat.le_of_ble_eq_true rfl) (by decide) (Nat.le_of_ble_eq_true rfl) rfl (TX9_answer h107) ?_
                  refine WP.aload_n dL_law_399 rfl rfl ?_
                  refine WP.aload_n dL_law_400 rfl rfl ?_
                  refine WP.iload_n dL_law_401 rfl rfl ?_
                  refine WP.iconst (v := 1) dL_law_402 (by decide) ?_
                  refine WP.iadd dL_law_403 ?_
                  obtain ⟨v109, h110, h⟩ := Option.bind_eq_some_iff.mp h
                  refine WP.sld hx dL_law_404 h110 ?_
                  refine WP.aload_n dL_law_405 rfl rfl ?_
                  refine WP.iload_n dL_law_406 rfl rfl ?_
                  refine WP.iconst (v := 2) dL_law_407 (by decide) ?_
                  refine WP.iadd dL_law_408 ?_
                  obtain ⟨v111, h112, h⟩ := Option.bind_eq_some_iff.mp h
                  refine WP.sld hx dL_law_409 h112 ?_
                  refine WP.aload_n dL_law_410 rfl rfl ?_
                  refine WP.iload_n dL_law_411 rfl rfl ?_
                  refine WP.iconst (v := 3) dL_law_412 (by decide) ?_
                  refine WP.iadd dL_law_413 ?_
                  obtain ⟨v113, h114, h⟩ := Option.bind_eq_some_iff.mp h
                  refine WP.sld hx dL_law_414 h114 ?_
                  obtain ⟨p116, h115, h⟩ := Option.bind_eq_some_iff.mp h
                  refine WP.callVI [.int v109, .int v111, .int v113] dL_law_415 lk_L_44 rfl rfl rfl (Nat.le_of_ble_eq_true rfl) (by decide) (Nat.le_of_ble_eq_true rfl) rfl (TX10_answer h115) ?_
                  refine WP.icmp_eq (tgt := 950) dL_law_418 (by decide) (fun c117 => ?_) (fun c117 => ?_)
                  · rw [if_pos c117] at h
                    refine WP.iinc (v := (q.1 + 5)) dL_law_950 rfl rfl (by decide) rfl rfl ?_
                    refine WP.goto (tgt := 18) dL_law_953 (by decide) ?_
                    refine WP.fgt [true, true, true, true] rfl ?_
                    exact hK18 (q.1 + 5) p116.2 _ h
                  · rw [if_neg c117] at h
                    refine WP.iconst (v := 0) dL_law_421 (by decide) ?_
                    cases h
                    exact WP.zret dL_law_422 (by decide) ⟨rfl, rfl⟩
                · rw [if_neg c100] at h
                  by_cases c118 : (v2 &&& 31) = 7
                  · rw [if_pos c118] at h
                    refine WP.tbl (off := 391) (tgt := 423) dL_law_32 (by rw [c118]; decide) (by decide) ?_
                    refine WP.aload_n dL_law_423 rfl rfl ?_
                    refine WP.aload_n dL_law_424 rfl rfl ?_
                    refine WP.iload_n dL_law_425 rfl rfl ?_
                    refine WP.iconst (v := 1) dL_law_426 (by decide) ?_
                    refine WP.iadd dL_law_427 ?_
                    obtain ⟨v119, h120, h⟩ := Option.bind_eq_some_iff.mp h
                    refine WP.sld hx dL_law_428 h120 ?_
                    refine WP.aload_n dL_law_429 rfl rfl ?_
                    refine WP.iload_n dL_law_430 rfl rfl ?_
                    refine WP.iconst (v := 2) dL_law_431 (by decide) ?_
                    refine WP.iadd dL_law_432 ?_
                    obtain ⟨v121, h122, h⟩ := Option.bind_eq_some_iff.mp h
                    refine WP.sld hx dL_law_433 h122 ?_
                    obtain ⟨p124, h123, h⟩ := Option.bind_eq_some_iff.mp h
                    refine WP.callVI [.int v119, .int v121] dL_law_434 lk_L_45 rfl rfl rfl (Nat.le_of_ble_eq_true rfl) (by decide) (Nat.le_of_ble_eq_true rfl) rfl (TX9_clear h123) ?_
                    refine WP.aload_n dL_law_437 rfl rfl ?_
                    refine WP.aload_n dL_law_438 rfl rfl ?_
                    refine WP.iload_n dL_law_439 rfl rfl ?_
                    refine WP.iconst (v := 1) dL_law_440 (by decide) ?_
                    refine WP.iadd dL_law_441 ?_
                    obtain ⟨v125, h126, h⟩ := Option.bind_eq_some_iff.mp h
                    refine WP.sld hx dL_law_442 h126 ?_
                    refine WP.aload_n dL_law_443 rfl rfl ?_
                    refine WP.iload_n dL_law_444 rfl rfl ?_
                    refine WP.iconst (v := 2) dL_law_445 (by decide) ?_
                    refine WP.iadd dL_law_446 ?_
                    obtain ⟨v127, h128, h⟩ := Option.bind_eq_some_iff.mp h
                    refine WP.sld hx dL_law_447 h128 ?_
                    obtain ⟨p130, h129, h⟩ := Option.bind_eq_some_iff.mp h
                    refine WP.callVI [.int v125, .int v127] dL_law_448 lk_L_48 rfl rfl rfl (Nat.le_of_ble_eq_true rfl) (by decide) (Nat.le_of_ble_eq_true rfl) rfl (TX10_clear h129) ?_
                    refine WP.icmp_eq (tgt := 950) dL_law_451 (by decide) (fun c131 => ?_) (fun c131 => ?_)
                    · rw [if_pos c131] at h
                      refine WP.iinc (v := (q.1 + 5)) dL_law_950 rfl rfl (by decide) rfl rfl ?_
                      refine WP.goto (tgt := 18) dL_law_953 (by decide) ?_
                      refine WP.fgt [true, true, true, true] rfl ?_
                      exact hK18 (q.1 + 5) p130.2 _ h
                    · rw [if_neg c131] at h
                      refine WP.iconst (v := 0) dL_law_454 (by decide) ?_
                      cases h
                      exact WP.zret dL_law_455 (by decide) ⟨rfl, rfl⟩
                  · rw [if_neg c118] at h
                    by_cases c132 : (v2 &&& 31) = 8
                    · rw [if_pos c132] at h
                      refine WP.tbl (off := 424) (tgt := 456) dL_law_32 (by rw [c132]; decide) (by decide) ?_
                      refine WP.aload_n dL_law_456 rfl rfl ?_
                      refine WP.aload_n dL_law_457 rfl rfl ?_
                      refine WP.iload_n dL_law_458 rfl rfl ?_
                      refine WP.iconst (v := 1) dL_law_459 (by decide) ?_
                      refine WP.iadd dL_law_460 ?_
                      obtain ⟨v133, h134, h⟩ := Option.bind_eq_some_iff.mp h
                      refine WP.sld hx dL_law_461 h134 ?_
                      refine WP.aload_n dL_law_462 rfl rfl ?_
                      refine WP.iload_n dL_law_463 rfl rfl ?_
                      refine WP.iconst (v := 2) dL_law_464 (by decide) ?_
                      refine WP.iadd dL_law_465 ?_
                      obtain ⟨v135, h136, h⟩ := Option.bind_eq_some_iff.mp h
                      refine WP.sld hx dL_law_466 h136 ?_
                      obtain ⟨p138, h137, h⟩ := Option.bind_eq_some_iff.mp h
                      refine WP.callVI [.int v133, .int v135] dL_law_467 lk_L_49 rfl rfl rfl (Nat.le_of_ble_eq_true rfl) (by decide) (Nat.le_of_ble_eq_true rfl) rfl (TX9_kept h137) ?_
                      refine WP.aload_n dL_law_470 rfl rfl ?_
                      refine WP.aload_n dL_law_471 rfl rfl ?_
                      refine WP.iload_n dL_law_472 rfl rfl ?_
                      refine WP.iconst (v := 1) dL_law_473 (by decide) ?_
                      refine WP.iadd dL_law_474 ?_
                      obtain ⟨v139, h140, h⟩ := Option.bind_eq_some_iff.mp h
                      refine WP.sld hx dL_law_475 h140 ?_
                      refine WP.aload_n dL_law_476 rfl rfl ?_
                      refine WP.iload_n dL_law_477 rfl rfl ?_
                      refine WP.iconst (v := 2) dL_law_478 (by decide) ?_
                      refine WP.iadd dL_law_479 ?_
                      obtain ⟨v141, h142, h⟩ := Option.bind_eq_some_iff.mp h
                      refine WP.sld hx dL_law_480 h142 ?_
                      obtain ⟨p144, h143, h⟩ := Option.bind_eq_some_iff.mp h
                      refine WP.callVI [.int v139, .int v141] dL_law_481 lk_L_52 rfl rfl rfl (Nat.le_of_ble_eq_true rfl) (by decide) (Nat.le_of_ble_eq_true rfl) rfl (TX10_kept h143) ?_
                      refine WP.icmp_eq (tgt := 950) dL_law_484 (by decide) (fun c145 => ?_) (fun c145 => ?_)
                      · rw [if_pos c145] at h
                        refine WP.iinc (v := (q.1 + 5)) dL_law_950 rfl rfl (by decide) rfl rfl ?_
                        refine WP.goto (tgt := 18) dL_law_953 (by decide) ?_
                        refine WP.fgt [true, true, true, true] rfl ?_
                        exact hK18 (q.1 + 5) p144.2 _ h
                      · rw [if_neg c145] at h
                        refine WP.iconst (v := 0) dL_law_487 (by decide) ?_
                        cases h
                        exact WP.zret dL_law_488 (by decide) ⟨rfl, rfl⟩
                    · rw [if_neg c132] at h
                      by_cases c146 : (v2 &&& 31) = 9
                      · rw [if_pos c146] at h
                        refine WP.tbl (off := 457) (tgt := 489) dL_law_32 (by rw [c146]; decide) (by decide) ?_
                        refine WP.aload_n dL_law_489 rfl rfl ?_
                        refine WP.aload_n dL_law_490 rfl rfl ?_
                        refine WP.iload_n dL_law_491 rfl rfl ?_
                        refine WP.iconst (v := 1) dL_law_492 (by decide) ?_
                        refine WP.iadd dL_law_493 ?_
                        obtain ⟨v147, h148, h⟩ := Option.bind_eq_some_iff.mp h
                        refine WP.sld hx dL_law_494 h148 ?_
                        refine WP.aload_n dL_law_495 rfl rfl ?_
                        refine WP.iload_n dL_law_496 rfl rfl ?_
                        refine WP.iconst (v := 2) dL_law_497 (by decide) ?_
                        refine WP.iadd dL_law_498 ?_
                        obtain ⟨v149, h150, h⟩ := Option.bind_eq_some_iff.mp h
                        refine WP.sld hx dL_law_499 h150 ?_
                        obtain ⟨p152, h151, h⟩ := Option.bind_eq_some_iff.mp h
                        refine WP.callVI [.int v147, .int v149] dL_law_500 lk_L_53 rfl rfl rfl (Nat.le_of_ble_eq_true rfl) (by decide) (Nat.le_of_ble_eq_true rfl) rfl (TX9_counts h151) ?_
                        refine WP.aload_n dL_law_503 rfl rfl ?_
                        refine WP.aload_n dL_law_504 rfl rfl ?_
                        refine WP.iload_n dL_law_505 rfl rfl ?_
                        refine WP.iconst (v := 1) dL_law_506 (by decide) ?_
                        refine WP.iadd dL_law_507 ?_
                        obtain ⟨v153, h154, h⟩ := Option.bind_eq_some_iff.mp h
                        refine WP.sld hx dL_law_508 h154 ?_
                        refine WP.aload_n dL_law_509 rfl rfl ?_
                        refine WP.iload_n dL_law_510 rfl rfl ?_
                        refine WP.iconst (v := 2) dL_law_511 (by decide) ?_
                        refine WP.iadd dL_law_512 ?_
                        obtain ⟨v155, h156, h⟩ := Option.bind_eq_some_iff.mp h
                        refine WP.sld hx dL_law_513 h156 ?_
                        obtain ⟨p158, h157, h⟩ := Option.bind_eq_some_iff.mp h
                        refine WP.callVI [.int v153, .int v155] dL_law_514 lk_L_56 rfl rfl rfl (Nat.le_of_ble_eq_true rfl) (by decide) (Nat.le_of_ble_eq_true rfl) rfl (TX10_counts h157) ?_
                        refine WP.icmp_eq (tgt := 950) dL_law_517 (by decide) (fun c159 => ?_) (fun c159 => ?_)
                        · rw [if_pos c159] at h
                          refine WP.iinc (v := (q.1 + 5)) dL_law_950 rfl rfl (by decide) rfl rfl ?_
                          refine WP.goto (tgt := 18) dL_law_953 (by decide) ?_
                          refine WP.fgt [true, true, true, true] rfl ?_
                          exact hK18 (q.1 + 5) p158.2 _ h
                        · rw [if_neg c159] at h
                          refine WP.iconst (v := 0) dL_law_520 (by decide) ?_
                          cases h
                          exact WP.zret dL_law_521 (by decide) ⟨rfl, rfl⟩
                      · rw [if_neg c146] at h
                        by_cases c160 : (v2 &&& 31) = 10
                        · rw [if_pos c160] at h
                          refine WP.tbl (off := 490) (tgt := 522) dL_law_32 (by rw [c160]; decide) (by decide) ?_
                          refine WP.aload_n dL_law_522 rfl rfl ?_
                          refine WP.aload_n dL_law_523 rfl rfl ?_
                          refine WP.iload_n dL_law_524 rfl rfl ?_
                          refine WP.iconst (v := 1) dL_law_525 (by decide) ?_
                          refine WP.iadd dL_law_526 ?_
                          obtain ⟨v161, h162, h⟩ := Option.bind_eq_some_iff.mp h
                          refine WP.sld hx dL_law_527 h162 ?_
                          refine WP.aload_n dL_law_528 rfl rfl ?_
                          refine WP.iload_n dL_law_529 rfl rfl ?_
                          refine WP.iconst (v := 2) dL_law_530 (by decide) ?_
                          refine WP.iadd dL_law_531 ?_
                          obtain ⟨v163, h164, h⟩ := Option.bind_eq_some_iff.mp h
                          refine WP.sld hx dL_law_532 h164 ?_
                          obtain ⟨p166, h165, h⟩ := Option.bind_eq_some_iff.mp h
                          refine WP.callVI [.int v161, .int v163] dL_law_533 lk_L_57 rfl rfl rfl (Nat.le_of_ble_eq_true rfl) (by decide) (Nat.le_of_ble_eq_true rfl) rfl (TX9_status h165) ?_
                          refine WP.aload_n dL_law_536 rfl rfl ?_
                          refine WP.aload_n dL_law_537 rfl rfl ?_
                          refine WP.iload_n dL_law_538 rfl rfl ?_
                          refine WP.iconst (v := 1) dL_law_539 (by decide) ?_
                          refine WP.iadd dL_law_540 ?_
                          obtain ⟨v167, h168, h⟩ := Option.bind_eq_some_iff.mp h
                          refine WP.sld hx dL_law_541 h168 ?_
                          refine WP.aload_n dL_law_542 rfl rfl ?_
                          refine WP.iload_n dL_law_543 rfl rfl ?_
                          refine WP.iconst (v := 2) dL_law_544 (by decide) ?_
                          refine WP.iadd dL_law_545 ?_
                          obtain ⟨v169, h170, h⟩ := Option.bind_eq_some_iff.mp h
                          refine WP.sld hx dL_law_546 h170 ?_
                          obtain ⟨p172, h171, h⟩ := Option.bind_eq_some_iff.mp h
                          refine WP.callVI [.int v167, .int v169] dL_law_547 lk_L_60 rfl rfl rfl (Nat.le_of_ble_eq_true rfl) (by decide) (Nat.le_of_ble_eq_true rfl) rfl (TX10_status h171) ?_
                          refine WP.icmp_eq (tgt := 950) dL_law_550 (by decide) (fun c173 => ?_) (fun c173 => ?_)
                          · rw [if_pos c173] at h
                            refine WP.iinc (v := (q.1 + 5)) dL_law_950 rfl rfl (by decide) rfl rfl ?_
                            refine WP.goto (tgt := 18) dL_law_953 (by decide) ?_
                            refine WP.fgt [true, true, true, true] rfl ?_
                            exact hK18 (q.1 + 5) p172.2 _ h
                          · rw [if_neg c173] at h
                            refine WP.iconst (v := 0) dL_law_553 (by decide) ?_
                            cases h
                            exact WP.zret dL_law_554 (by decide) ⟨rfl, rfl⟩
                        · rw [if_neg c160] at h
                          by_cases c174 : (v2 &&& 31) = 11
                          · rw [if_pos c174] at h
                            refine WP.tbl (off := 523) (tgt := 555) dL_law_32 (by rw [c174]; decide) (by decide) ?_
                            refine WP.aload_n dL_law_555 rfl rfl ?_
                            refine WP.aload_n dL_law_556 rfl rfl ?_
                            refine WP.iload_n dL_law_557 rfl rfl ?_
                            refine WP.iconst (v := 1) dL_law_558 (by decide) ?_
                            refine WP.iadd dL_law_559 ?_
                            obtain ⟨v175, h176, h⟩ := Option.bind_eq_some_iff.mp h
                            refine WP.sld hx dL_law_560 h176 ?_
                            obtain ⟨p178, h177, h⟩ := Option.bind_eq_some_iff.mp h
                            refine WP.callVI [.int v175] dL_law_561 lk_L_61 rfl rfl rfl (Nat.le_of_ble_eq_true rfl) (by decide) (Nat.le_of_ble_eq_true rfl) rfl (TX9_done h177) ?_
                            refine WP.aload_n dL_law_564 rfl rfl ?_
                            refine WP.aload_n dL_law_565 rfl rfl ?_
                            refine WP.iload_n dL_law_566 rfl rfl ?_
                            refine WP.iconst (v := 1) dL_law_567 (by decide) ?_
                            refine WP.iadd dL_law_568 ?_
                            obtain ⟨v179, h180, h⟩ := Option.bind_eq_some_iff.mp h
                            refine WP.sld hx dL_law_569 h180 ?_
                            obtain ⟨p182, h181, h⟩ := Option.bind_eq_some_iff.mp h
                            refine WP.callVI [.int v179] dL_law_570 lk_L_64 rfl rfl rfl (Nat.le_of_ble_eq_true rfl) (by decide) (Nat.le_of_ble_eq_true rfl) rfl (TX10_done h181) ?_
                            refine WP.icmp_eq (tgt := 950) dL_law_573 (by decide) (fun c183 => ?_) (fun c183 => ?_)
                            · rw [if_pos c183] at h
                              refine WP.iinc (v := (q.1 + 5)) dL_law_950 rfl rfl (by decide) rfl rfl ?_
                              refine WP.goto (tgt := 18) dL_law_953 (by decide) ?_
                              refine WP.fgt [true, true, true, true] rfl ?_
                              exact hK18 (q.1 + 5) p182.2 _ h
                            · rw [if_neg c183] at h
                              refine WP.iconst (v := 0) dL_law_576 (by decide) ?_
                              cases h
                              exact WP.zret dL_law_577 (by decide) ⟨rfl, rfl⟩
                          · rw [if_neg c174] at h
                            by_cases c184 : (v2 &&& 31) = 12
                            · rw [if_pos c184] at h
                              refine WP.tbl (off := 546) (tgt := 578) dL_law_32 (by rw [c184]; decide) (by decide) ?_
                              refine WP.aload_n dL_law_578 rfl rfl ?_
                              refine WP.aload_n dL_law_579 rfl rfl ?_
                              refine WP.iload_n dL_law_580 rfl rfl ?_
                              refine WP.iconst (v := 1) dL_law_581 (by decide) ?_
                              refine WP.iadd dL_law_582 ?_
                              obtain ⟨v185, h186, h⟩ := Option.bind_eq_some_iff.mp h
                              refine WP.sld hx dL_law_583 h186 ?_
                              refine WP.aload_n dL_law_584 rfl rfl ?_
                              refine WP.iload_n dL_law_585 rfl rfl ?_
                              refine WP.iconst (v := 2) dL_law_586 (by decide) ?_
                              refine WP.iadd dL_law_587 ?_
                              obtain ⟨v187, h188, h⟩ := Option.bind_eq_some_iff.mp h
                              refine WP.sld hx dL_law_588 h188 ?_
                              obtain ⟨p190, h189, h⟩ := Option.bind_eq_some_iff.mp h
                              refine WP.callVI [.int v185, .int v187] dL_law_589 lk_L_65 rfl rfl rfl (Nat.le_of_ble_eq_true rfl) (by decide) (Nat.le_of_ble_eq_true rfl) rfl (TX9_value h189) ?_
                              refine WP.aload_n dL_law_592 rfl rfl ?_
                              refine WP.aload_n dL_law_593 rfl rfl ?_
                              refine WP.iload_n dL_law_594 rfl rfl ?_
                              refine WP.iconst (v := 1) dL_law_595 (by decide) ?_
                              refine WP.iadd dL_law_596 ?_
                              obtain ⟨v191, h192, h⟩ := Option.bind_eq_some_iff.mp h
                              refine WP.sld hx dL_law_597 h192 ?_
                              refine WP.aload_n dL_law_598 rfl rfl ?_
                              refine WP.iload_n dL_law_599 rfl rfl ?_
                              refine WP.iconst (v := 2) dL_law_600 (by decide) ?_
                              refine WP.iadd dL_law_601 ?_
                              obtain ⟨v193, h194, h⟩ := Option.bind_eq_some_iff.mp h
                              refine WP.sld hx dL_law_602 h194 ?_
                              obtain ⟨p196, h195, h⟩ := Option.bind_eq_some_iff.mp h
                              refine WP.callVI [.int v191, .int v193] dL_law_603 lk_L_68 rfl rfl rfl (Nat.le_of_ble_eq_true rfl) (by decide) (Nat.le_of_ble_eq_true rfl) rfl (TX10_value h195) ?_
                              refine WP.icmp_eq (tgt := 950) dL_law_606 (by decide) (fun c197 => ?_) (fun c197 => ?_)
                              · rw [if_pos c197] at h
                                refine WP.iinc (v := (q.1 + 5)) dL_law_950 rfl rfl (by decide) rfl rfl ?_
                                refine WP.goto (tgt := 18) dL_law_953 (by decide) ?_
                                refine WP.fgt [true, true, true, true] rfl ?_
                                exact hK18 (q.1 + 5) p196.2 _ h
                              · rw [if_neg c197] at h
                                refine WP.iconst (v := 0) dL_law_609 (by decide) ?_
                                cases h
                                exact WP.zret dL_law_610 (by decide) ⟨rfl, rfl⟩
                            · rw [if_neg c184] at h
                              by_cases c198 : (v2 &&& 31) = 13
                              · rw [if_pos c198] at h
                                refine WP.tbl (off := 579) (tgt := 611) dL_law_32 (by rw [c198]; decide) (by decide) ?_
                                refine WP.aload_n dL_law_611 rfl rfl ?_
                                refine WP.aload_n dL_law_612 rfl rfl ?_
                                refine WP.iload_n dL_law_613 rfl rfl ?_
                                refine WP.iconst (v := 1) dL_law_614 (by decide) ?_
                                refine WP.iadd dL_law_615 ?_
                                obtain ⟨v199, h200, h⟩ := Option.bind_eq_some_iff.mp h
                                refine WP.sld hx dL_law_616 h200 ?_
                                refine WP.aload_n dL_law_617 rfl rfl ?_
                                refine WP.iload_n dL_law_618 rfl rfl ?_
                                refine WP.iconst (v := 2) dL_law_619 (by decide) ?_
                                refine WP.iadd dL_law_620 ?_
                                obtain ⟨v201, h202, h⟩ := Option.bind_eq_some_iff.mp h
                                refine WP.sld hx dL_law_621 h202 ?_
                                obtain ⟨p204, h203, h⟩ := Option.bind_eq_some_iff.mp h
                                refine WP.callVI [.int v199, .int v201] dL_law_622 lk_L_69 rfl rfl rfl (Nat.le_of_ble_eq_true rfl) (by decide) (Nat.le_of_ble_eq_true rfl) rfl (TX9_copy h203) ?_
                                refine WP.aload_n dL_law_625 rfl rfl ?_
                                refine WP.aload_n dL_law_626 rfl rfl ?_
                                refine WP.iload_n dL_law_627 rfl rfl ?_
                                refine WP.iconst (v := 1) dL_law_628 (by decide) ?_
                                refine WP.iadd dL_law_629 ?_
                                obtain ⟨v205, h206, h⟩ := Option.bind_eq_some_iff.mp h
                                refine WP.sld hx dL_law_630 h206 ?_
                                refine WP.aload_n dL_law_631 rfl rfl ?_
                                refine WP.iload_n dL_law_632 rfl rfl ?_
                                refine WP.iconst (v := 2) dL_law_633 (by decide) ?_
                                refine WP.iadd dL_law_634 ?_
                                obtain ⟨v207, h208, h⟩ := Option.bind_eq_some_iff.mp h
                                refine WP.sld hx dL_law_635 h208 ?_
                                obtain ⟨p210, h209, h⟩ := Option.bind_eq_some_iff.mp h
                                refine WP.callVI [.int v205, .int v207] dL_law_636 lk_L_72 rfl rfl rfl (Nat.le_of_ble_eq_true rfl) (by decide) (Nat.le_of_ble_eq_true rfl) rfl (TX10_copy h209) ?_
                                refine WP.icmp_eq (tgt := 950) dL_law_639 (by decide) (fun c211 => ?_) (fun c211 => ?_)
                                · rw [if_pos c211] at h
                                  refine WP.iinc (v := (q.1 + 5)) dL_law_950 rfl rfl (by decide) rfl rfl ?_
                                  refine WP.goto (tgt := 18) dL_law_953 (by decide) ?_
                                  refine WP.fgt [true, true, true, true] rfl ?_
                                  exact hK18 (q.1 + 5) p210.2 _ h
                                · rw [if_neg c211] at h
                                  refine WP.iconst (v := 0) dL_law_642 (by decide) ?_
                                  cases h
                                  exact WP.zret dL_law_643 (by decide) ⟨rfl, rfl⟩
                              · rw [if_neg c198] at h
                                by_cases c212 : (v2 &&& 31) = 14
                                · rw [if_pos c212] at h
                                  refine WP.tbl (off := 612) (tgt := 644) dL_law_32 (by rw [c212]; decide) (by decide) ?_
                                  refine WP.aload_n dL_law_644 rfl rfl ?_
                                  refine WP.aload_n dL_law_645 rfl rfl ?_
                                  refine WP.iload_n dL_law_646 rfl rfl ?_
                                  refine WP.iconst (v := 1) dL_law_647 (by decide) ?_
                                  refine WP.iadd dL_law_648 ?_
                                  obtain ⟨v213, h214, h⟩ := Option.bind_eq_some_iff.mp h
                                  refine WP.sld hx dL_law_649 h214 ?_
                                  refine WP.aload_n dL_law_650 rfl rfl ?_
                                  refine WP.iload_n dL_law_651 rfl rfl ?_
                                  refine WP.iconst (v := 2) dL_law_652 (by decide) ?_
                                  refine WP.iadd dL_law_653 ?_
                                  obtain ⟨v215, h216, h⟩ := Option.bind_eq_some_iff.mp h
                                  refine WP.sld hx dL_law_654 h216 ?_
                                  refine WP.aload_n dL_law_655 rfl rfl ?_
                                  refine WP.iload_n dL_law_656 rfl rfl ?_
                                  refine WP.iconst (v := 3) dL_law_657 (by decide) ?_
                                  refine WP.iadd dL_law_658 ?_
                                  obtain ⟨v217, h218, h⟩ := Option.bind_eq_some_iff.mp h
                                  refine WP.sld hx dL_law_659 h218 ?_
                                  refine WP.aload_n dL_law_660 rfl rfl ?_
                                  refine WP.iload_n dL_law_661 rfl rfl ?_
                                  refine WP.iconst (v := 4) dL_law_662 (by decide) ?_
                                  refine WP.iadd dL_law_663 ?_
                                  obtain ⟨v219, h220, h⟩ := Option.bind_eq_some_iff.mp h
                                  refine WP.sld hx dL_law_664 h220 ?_
                                  obtain ⟨p222, h221, h⟩ := Option.bind_eq_some_iff.mp h
                                  refine WP.callVI [.int v213, .int v215, .int v217, .int v219] dL_law_665 lk_L_73 rfl rfl rfl (Nat.le_of_ble_eq_true rfl) (by decide) (Nat.le_of_ble_eq_true rfl) rfl (TX9_join h221) ?_
                                  refine WP.aload_n dL_law_668 rfl rfl ?_
                                  refine WP.aload_n dL_law_669 rfl rfl ?_
                                  refine WP.iload_n dL_law_670 rfl rfl ?_
                                  refine WP.iconst (v := 1) dL_law_671 (by decide) ?_
                                  refine WP.iadd dL_law_672 ?_
                                  obtain ⟨v223, h224, h⟩ := Option.bind_eq_some_iff.mp h
                                  refine WP.sld hx dL_law_673 h224 ?_
                                  refine WP.aload_n dL_law_674 rfl rfl ?_
                                  refine WP.iload_n dL_law_675 rfl rfl ?_
                                  refine WP.iconst (v := 2) dL_law_676 (by decide) ?_
                                  refine WP.iadd dL_law_677 ?_
                                  obtain ⟨v225, h226, h⟩ := Option.bind_eq_some_iff.mp h
                                  refine WP.sld hx dL_law_678 h226 ?_
                                  refine WP.aload_n dL_law_679 rfl rfl ?_
                                  refine WP.iload_n dL_law_680 rfl rfl ?_
                                  refine WP.iconst (v := 3) dL_law_681 (by decide) ?_
                                  refine WP.iadd dL_law_682 ?_
                                  obtain ⟨v227, h228, h⟩ := Option.bind_eq_some_iff.mp h
                                  refine WP.sld hx dL_law_683 h228 ?_
                                  refine WP.aload_n dL_law_684 rfl rfl ?_
                                  refine WP.iload_n dL_law_685 rfl rfl ?_
                                  refine WP.iconst (v := 4) dL_law_686 (by decide) ?_
                                  refine WP.iadd dL_law_687 ?_
                                  obtain ⟨v229, h230, h⟩ := Option.bind_eq_some_iff.mp h
                                  refine WP.sld hx dL_law_688 h230 ?_
                                  obtain ⟨p232, h231, h⟩ := Option.bind_eq_some_iff.mp h
                                  refine WP.callVI [.int v223, .int v225, .int v227, .int v229] dL_law_689 lk_L_76 rfl rfl rfl (Nat.le_of_ble_eq_true rfl) (by decide) (Nat.le_of_ble_eq_true rfl) rfl (TX10_join h231) ?_
                                  refine WP.icmp_eq (tgt := 950) dL_law_692 (by decide) (fun c233 => ?_) (fun c233 => ?_)
                                  · rw [if_pos c233] at h
                                    refine WP.iinc (v := (q.1 + 5)) dL_law_950 rfl rfl (by decide) rfl rfl ?_
                                    refine WP.goto (tgt := 18) dL_law_953 (by decide) ?_
                                    refine WP.fgt [true, true, true, true] rfl ?_
                                    exact hK18 (q.1 + 5) p232.2 _ h
                                  · rw [if_neg c233] at h
                                    refine WP.iconst (v := 0) dL_law_695 (by decide) ?_
                                    cases h
                                    exact WP.zret dL_law_696 (by decide) ⟨rfl, rfl⟩
                                · rw [if_neg c212] at h
                                  by_cases c234 : (v2 &&& 31) = 15
                                  · rw [if_pos c234] at h
                                    refine WP.tbl (off := 665) (tgt := 697) dL_law_32 (by rw [c234]; decide) (by decide) ?_
                                    refine WP.aload_n dL_law_697 rfl rfl ?_
                                    refine WP.aload_n dL_law_698 rfl rfl ?_
                                    refine WP.iload_n dL_law_699 rfl rfl ?_
                                    refine WP.iconst (v := 1) dL_law_700 (by decide) ?_
                                    refine WP.iadd dL_law_701 ?_
                                    obtain ⟨v235, h236, h⟩ := Option.bind_eq_some_iff.mp h
                                    refine WP.sld hx dL_law_702 h236 ?_
                                    obtain ⟨r238, h237, h⟩ := Option.bind_eq_some_iff.mp h
                                    refine WP.callVI [.int v235] dL_law_703 lk_L_77 rfl rfl rfl (Nat.le_of_ble_eq_true rfl) (by decide) (Nat.le_of_ble_eq_true rfl) rfl (TX9_odds h237) ?_
                                    refine WP.aload_n dL_law_706 rfl rfl ?_
                                    refine WP.aload_n dL_law_707 rfl rfl ?_
                                    refine WP.iload_n dL_law_708 rfl rfl ?_
                                    refine WP.iconst (v := 1) dL_law_709 (by decide) ?_
                                    refine WP.iadd dL_law_710 ?_
                                    obtain ⟨v239, h240, h⟩ := Option.bind_eq_some_iff.mp h
                                    refine WP.sld hx dL_law_711 h240 ?_
                                    obtain ⟨r242, h241, h⟩ := Option.bind_eq_some_iff.mp h
                                    refine WP.callVI [.int v239] dL_law_712 lk_L_80 rfl rfl rfl (Nat.le_of_ble_eq_true rfl) (by decide) (Nat.le_of_ble_eq_true rfl) rfl (TX10_odds h241) ?_
                                    refine WP.icmp_eq (tgt := 950) dL_law_715 (by decide) (fun c243 => ?_) (fun c243 => ?_)
                                    · rw [if_pos c243] at h
                                      refine WP.iinc (v := (q.1 + 5)) dL_law_950 rfl rfl (by decide) rfl rfl ?_
                                      refine WP.goto (tgt := 18) dL_law_953 (by decide) ?_
                                      refine WP.fgt [true, true, true, true] rfl ?_
                                      exact hK18 (q.1 + 5) q.2 _ h
                                    · rw [if_neg c243] at h
                                      refine WP.iconst (v := 0) dL_law_718 (by decide) ?_
                                      cases h
                                      exact WP.zret dL_law_719 (by decide) ⟨rfl, rfl⟩
                                  · rw [if_neg c234] at h
                                    by_cases c244 : (v2 &&& 31) = 16
                                    · rw [if_pos c244] at h
                                      refine WP.tbl (off := 688) (tgt := 720) dL_law_32 (by rw [c244]; decide) (by decide) ?_
                                      refine WP.aload_n dL_law_720 rfl rfl ?_
                                      refine WP.aload_n dL_law_721 rfl rfl ?_
                                      refine WP.iload_n dL_law_722 rfl rfl ?_
                                      refine WP.iconst (v := 1) dL_law_723 (by decide) ?_
                                      refine WP.iadd dL_law_724 ?_
                                      obtain ⟨v245, h246, h⟩ := Option.bind_eq_some_iff.mp h
                                      refine WP.sld hx dL_law_725 h246 ?_
                                      refine WP.aload_n dL_law_726 rfl rfl ?_
                                      refine WP.iload_n dL_law_727 rfl rfl ?_
                                      refine WP.iconst (v := 2) dL_law_728 (by decide) ?_
                                      refine WP.iadd dL_law_729 ?_
                                      obtain ⟨v247, h248, h⟩ := Option.bind_eq_some_iff.mp h
                                      refine WP.sld hx dL_law_730 h248 ?_
                                      obtain ⟨p250, h249, h⟩ := Option.bind_eq_some_iff.mp h
                                      refine WP.callVI [.int v245, .int v247] dL_law_731 lk_L_81 rfl rfl rfl (Nat.le_of_ble_eq_true rfl) (by decide) (Nat.le_of_ble_eq_true rfl) rfl (TX9_seal h249) ?_
                                      refine WP.aload_n dL_law_734 rfl rfl ?_
                                      refine WP.aload_n dL_law_735 rfl rfl ?_
                                      refine WP.iload_n dL_law_736 rfl rfl ?_
                                      refine WP.iconst (v := 1) dL_law_737 (by decide) ?_
                                      refine WP.iadd dL_law_738 ?_
                                      obtain ⟨v251, h252, h⟩ := Option.bind_eq_some_iff.mp h
                                      refine WP.sld hx dL_law_739 h252 ?_
                                      refine WP.aload_n dL_law_740 rfl rfl ?_
                                      refine WP.iload_n dL_law_741 rfl rfl ?_
                                      refine WP.iconst (v := 2) dL_law_742 (by decide) ?_
                                      refine WP.iadd dL_law_743 ?_
                                      obtain ⟨v253, h254, h⟩ := Option.bind_eq_some_iff.mp h
                                      refine WP.sld hx dL_law_744 h254 ?_
                                      obtain ⟨p256, h255, h⟩ := Option.bind_eq_some_iff.mp h
                                      refine WP.callVI [.int v251, .int v253] dL_law_745 lk_L_84 rfl rfl rfl (Nat.le_of_ble_eq_true rfl) (by decide) (Nat.le_of_ble_eq_true rfl) rfl (TX10_seal h255) ?_
                                      refine WP.icmp_eq (tgt := 950) dL_law_748 (by decide) (fun c257 => ?_) (fun c257 => ?_)
                                      · rw [if_pos c257] at h
                                        refine WP.iinc (v := (q.1 + 5)) dL_law_950 rfl rfl (by decide) rfl rfl ?_
                                        refine WP.goto (tgt := 18) dL_law_953 (by decide) ?_
                                        refine WP.fgt [true, true, true, true] rfl ?_
                                        exact hK18 (q.1 + 5) p256.2 _ h
                                      · rw [if_neg c257] at h
                                        refine WP.iconst (v := 0) dL_law_751 (by decide) ?_
                                        cases h
                                        exact WP.zret dL_law_752 (by decide) ⟨rfl, rfl⟩
                                    · rw [if_neg c244] at h
                                      by_cases c258 : (v2 &&& 31) = 17
                                      · rw [if_pos c258] at h
                                        refine WP.tbl (off := 721) (tgt := 753) dL_law_32 (by rw [c258]; decide) (by decide) ?_
                                        refine WP.aload_n dL_law_753 rfl rfl ?_
                                        refine WP.aload_n dL_law_754 rfl rfl ?_
                                        refine WP.iload_n dL_law_755 rfl rfl ?_
                                        refine WP.iconst (v := 1) dL_law_756 (by decide) ?_
                                        refine WP.iadd dL_law_757 ?_
                                        obtain ⟨v259, h260, h⟩ := Option.bind_eq_some_iff.mp h
                                        refine WP.sld hx dL_law_758 h260 ?_
                                        obtain ⟨p262, h261, h⟩ := Option.bind_eq_some_iff.mp h
                                        refine WP.callVI [.int v259] dL_law_759 lk_L_85 rfl rfl rfl (Nat.le_of_ble_eq_true rfl) (by decide) (Nat.le_of_ble_eq_true rfl) rfl (TX9_open h261) ?_
                                        refine WP.aload_n dL_law_762 rfl rfl ?_
                                        refine WP.aload_n dL_law_763 rfl rfl ?_
                                        refine WP.iload_n dL_law_764 rfl rfl ?_
                                        refine WP.iconst (v := 1) dL_law_765 (by decide) ?_
                                        refine WP.iadd dL_law_766 ?_
                                        obtain ⟨v263, h264, h⟩ := Option.bind_eq_some_iff.mp h
                                        refine WP.sld hx dL_law_767 h264 ?_
                                        obtain ⟨p266, h265, h⟩ := Option.bind_eq_some_iff.mp h
                                        refine WP.callVI [.int v263] dL_law_768 lk_L_88 rfl rfl rfl (Nat.le_of_ble_eq_true rfl) (by decide) (Nat.le_of_ble_eq_true rfl) rfl (TX10_open h265) ?_
                                        refine WP.icmp_eq (tgt := 950) dL_law_771 (by decide) (fun c267 => ?_) (fun c267 => ?_)
                                        · rw [if_pos c267] at h
                                          refine WP.iinc (v := (q.1 + 5)) dL_law_950 rfl rfl (by decide) rfl rfl ?_
                                          refine WP.goto (tgt := 18) dL_law_953 (by decide) ?_
                                          refine WP.fgt [true, true, true, true] rfl ?_
                                          exact hK18 (q.1 + 5) p266.2 _ h
                                        · rw [if_neg c267] at h
                                          refine WP.iconst (v := 0) dL_law_774 (by decide) ?_
                                          cases h
                                          exact WP.zret dL_law_775 (by decide) ⟨rfl, rfl⟩
                                      · rw [if_neg c258] at h
                                        by_cases c268 : (v2 &&& 31) = 18
                                        · rw [if_pos c268] at h
                                          refine WP.tbl (off := 744) (tgt := 776) dL_law_32 (by rw [c268]; decide) (by decide) ?_
                                          refine WP.aload_n dL_law_776 rfl rfl ?_
                                          refine WP.aload_n dL_law_777 rfl rfl ?_
                                          refine WP.iload_n dL_law_778 rfl rfl ?_
                                          refine WP.iconst (v := 1) dL_law_779 (by decide) ?_
                                          refine WP.iadd dL_law_780 ?_
                                          obtain ⟨v269, h270, h⟩ := Option.bind_eq_some_iff.mp h
                                          refine WP.sld hx dL_law_781 h270 ?_
                                          refine WP.aload_n dL_law_782 rfl rfl ?_
                                          refine WP.iload_n dL_law_783 rfl rfl ?_
                                          refine WP.iconst (v := 2) dL_law_784 (by decide) ?_
                                          refine WP.iadd dL_law_785 ?_
                                          obtain ⟨v271, h272, h⟩ := Option.bind_eq_some_iff.mp h
                                          refine WP.sld hx dL_law_786 h272 ?_
                                          obtain ⟨p274, h273, h⟩ := Option.bind_eq_some_iff.mp h
                                          refine WP.callVI [.int v269, .int v271] dL_law_787 lk_L_89 rfl rfl rfl (Nat.le_of_ble_eq_true rfl) (by decide) (Nat.le_of_ble_eq_true rfl) rfl (TX9_sealed h273) ?_
                                          refine WP.aload_n dL_law_790 rfl rfl ?_
                                          refine WP.aload_n dL_law_791 rfl rfl ?_
                                          refine WP.iload_n dL_law_792 rfl rfl ?_
                                          refine WP.iconst (v := 1) dL_law_793 (by decide) ?_
                                          refine WP.iadd dL_law_794 ?_
                                          obtain ⟨v275, h276, h⟩ := Option.bind_eq_some_iff.mp h
                                          refine WP.sld hx dL_law_795 h276 ?_
                                          refine WP.aload_n dL_law_796 rfl rfl ?_
                                          refine WP.iload_n dL_law_797 rfl rfl ?_
                                          refine WP.iconst (v := 2) dL_law_798 (by decide) ?_
                                          refine WP.iadd dL_law_799 ?_
                                          obtain ⟨v277, h278, h⟩ := Option.bind_eq_some_iff.mp h
                                          refine WP.sld hx dL_law_800 h278 ?_
                                          obtain ⟨p280, h279, h⟩ := Option.bind_eq_some_iff.mp h
                                          refine WP.callVI [.int v275, .int v277] dL_law_801 lk_L_92 rfl rfl rfl (Nat.le_of_ble_eq_true rfl) (by decide) (Nat.le_of_ble_eq_true rfl) rfl (TX10_sealed h279) ?_
                                          refine WP.icmp_eq (tgt := 950) dL_law_804 (by decide) (fun c281 => ?_) (fun c281 => ?_)
                                          · rw [if_pos c281] at h
                                            refine WP.iinc (v := (q.1 + 5)) dL_law_950 rfl rfl (by decide) rfl rfl ?_
                                            refine WP.goto (tgt := 18) dL_law_953 (by decide) ?_
                                            refine WP.fgt [true, true, true, true] rfl ?_
                                            exact hK18 (q.1 + 5) p280.2 _ h
                                          · rw [if_neg c281] at h
                                            refine WP.iconst (v := 0) dL_law_807 (by decide) ?_
                                            cases h
                                            exact WP.zret dL_law_808 (by decide) ⟨rfl, rfl⟩
                                        · rw [if_neg c268] at h
                                          by_cases c282 : (v2 &&& 31) = 19
                                          · rw [if_pos c282] at h
                                            refine WP.tbl (off := 777) (tgt := 809) dL_law_32 (by rw [c282]; decide) (by decide) ?_
                                            refine WP.aload_n dL_law_809 rfl rfl ?_
                                            refine WP.aload_n dL_law_810 rfl rfl ?_
                                            refine WP.iload_n dL_law_811 rfl rfl ?_
                                            refine WP.iconst (v := 1) dL_law_812 (by decide) ?_
                                            refine WP.iadd dL_law_813 ?_
                                            obtain ⟨v283, h284, h⟩ := Option.bind_eq_some_iff.mp h
                                            refine WP.sld hx dL_law_814 h284 ?_
                                            obtain ⟨p286, h285, h⟩ := Option.bind_eq_some_iff.mp h
                                            refine WP.callVI [.int v283] dL_law_815 lk_L_93 rfl rfl rfl (Nat.le_of_ble_eq_true rfl) (by decide) (Nat.le_of_ble_eq_true rfl) rfl (TX9_reach h285) ?_
                                            refine WP.aload_n dL_law_818 rfl rfl ?_
                                            refine WP.aload_n dL_law_819 rfl rfl ?_
                                            refine WP.iload_n dL_law_820 rfl rfl ?_
                                            refine WP.iconst (v := 1) dL_law_821 (by decide) ?_
                                            refine WP.iadd dL_law_822 ?_
                                            obtain ⟨v287, h288, h⟩ := Option.bind_eq_some_iff.mp h
                                            refine WP.sld hx dL_law_823 h288 ?_
                                            obtain ⟨p290, h289, h⟩ := Option.bind_eq_some_iff.mp h
                                            refine WP.callVI [.int v287] dL_law_824 lk_L_96 rfl rfl rfl (Nat.le_of_ble_eq_true rfl) (by decide) (Nat.le_of_ble_eq_true rfl) rfl (TX10_reach h289) ?_
                                            refine WP.icmp_eq (tgt := 950) dL_law_827 (by decide) (fun c291 => ?_) (fun c291 => ?_)
                                            · rw [if_pos c291] at h
                                              refine WP.iinc (v := (q.1 + 5)) dL_law_950 rfl rfl (by decide) rfl rfl ?_
                                              refine WP.goto (tgt := 18) dL_law_953 (by decide) ?_
                                              refine WP.fgt [true, true, true, true] rfl ?_
                                              exact hK18 (q.1 + 5) p290.2 _ h
                                            · rw [if_neg c291] at h
                                              refine WP.iconst (v := 0) dL_law_830 (by decide) ?_
                                              cases h
                                              exact WP.zret dL_law_831 (by decide) ⟨rfl, rfl⟩
                                          · rw [if_neg c282] at h
                                            by_cases c292 : (v2 &&& 31) = 20
                                            · rw [if_pos c292] at h
                                              refine WP.tbl (off := 800) (tgt := 832) dL_law_32 (by rw [c292]; decide) (by decide) ?_
                                              refine WP.aload_n dL_law_832 rfl rfl ?_
                                              refine WP.aload_n dL_law_833 rfl rfl ?_
                                              refine WP.iload_n dL_law_834 rfl rfl ?_
                                              refine WP.iconst (v := 1) dL_law_835 (by decide) ?_
                                              refine WP.iadd dL_law_836 ?_
                                              obtain ⟨v293, h294, h⟩ := Option.bind_eq_some_iff.mp h
                                              refine WP.sld hx dL_law_837 h294 ?_
                                              obtain ⟨r296, h295, h⟩ := Option.bind_eq_some_iff.mp h
                                              refine WP.callVI [.int v293] dL_law_838 lk_L_97 rfl rfl rfl (Nat.le_of_ble_eq_true rfl) (by decide) (Nat.le_of_ble_eq_true rfl) rfl (TX9_found h295) ?_
                                              refine WP.aload_n dL_law_841 rfl rfl ?_
                                              refine WP.aload_n dL_law_842 rfl rfl ?_
                                              refine WP.iload_n dL_law_843 rfl rfl ?_
                                              refine WP.iconst (v := 1) dL_law_844 (by decide) ?_
                                              refine WP.iadd dL_law_845 ?_
                                              obtain ⟨v297, h298, h⟩ := Option.bind_eq_some_iff.mp h
                                              refine WP.sld hx dL_law_846 h298 ?_
                                              obtain ⟨r300, h299, h⟩ := Option.bind_eq_some_iff.mp h
                                              refine WP.callVI [.int v297] dL_law_847 lk_L_100 rfl rfl rfl (Nat.le_of_ble_eq_true rfl) (by decide) (Nat.le_of_ble_eq_true rfl) rfl (TX10_found h299) ?_
                                              refine WP.icmp_eq (tgt := 950) dL_law_850 (by decide) (fun c301 => ?_) (fun c301 => ?_)
                                              · rw [if_pos c301] at h
                                                refine WP.iinc (v := (q.1 + 5)) dL_law_950 rfl rfl (by decide) rfl rfl ?_
                                                refine WP.goto (tgt := 18) dL_law_953 (by decide) ?_
                                                refine WP.fgt [true, true, true, true] rfl ?_
                                                exact hK18 (q.1 + 5) q.2 _ h
                                              · rw [if_neg c301] at h
                                                refine WP.iconst (v := 0) dL_law_853 (by decide) ?_
                                                cases h
                                                exact WP.zret dL_law_854 (by decide) ⟨rfl, rfl⟩
                                            · rw [if_neg c292] at h
                                              by_cases c302 : (v2 &&& 31) = 21
                                              · rw [if_pos c302] at h
                                                refine WP.tbl (off := 823) (tgt := 855) dL_law_32 (by rw [c302]; decide) (by decide) ?_
                                                refine WP.aload_n dL_law_855 rfl rfl ?_
                                                obtain ⟨r304, h303, h⟩ := Option.bind_eq_some_iff.mp h
                                                refine WP.callVI [] dL_law_856 lk_L_101 rfl rfl rfl (Nat.le_of_ble_eq_true rfl) (by decide) (Nat.le_of_ble_eq_true rfl) rfl (TX9_tried h303) ?_
                                                refine WP.aload_n dL_law_859 rfl rfl ?_
                                                obtain ⟨r306, h305, h⟩ := Option.bind_eq_some_iff.mp h
                                                refine WP.callVI [] dL_law_860 lk_L_105 rfl rfl rfl (Nat.le_of_ble_eq_true rfl) (by decide) (Nat.le_of_ble_eq_true rfl) rfl (TX10_tried h305) ?_
                                                refine WP.icmp_eq (tgt := 950) dL_law_863 (by decide) (fun c307 => ?_) (fun c307 => ?_)
                                                · rw [if_pos c307] at h
                                                  refine WP.iinc (v := (q.1 + 5)) dL_law_950 rfl rfl (by decide) rfl rfl ?_
                                                  refine WP.goto (tgt := 18) dL_law_953 (by decide) ?_
                                                  refine WP.fgt [true, true, true, true] rfl ?_
                                                  exact hK18 (q.1 + 5) q.2 _ h
                                                · rw [if_neg c307] at h
                                                  refine WP.iconst (v := 0) dL_law_866 (by decide) ?_
                                                  cases h
                                                  exact WP.zret dL_law_867 (by decide) ⟨rfl, rfl⟩
                                              · rw [if_neg c302] at h
                                                by_cases c308 : (v2 &&& 31) = 22
                                                · rw [if_pos c308] at h
                                                  refine WP.tbl (off := 836) (tgt := 868) dL_law_32 (by rw [c308]; decide) (by decide) ?_
                                                  refine WP.aload_n dL_law_868 rfl rfl ?_
                                                  refine WP.aload_n dL_law_869 rfl rfl ?_
                                                  refine WP.iload_n dL_law_870 rfl rfl ?_
                                                  refine WP.iconst (v := 1) dL_law_871 (by decide) ?_
                                                  refine WP.iadd dL_law_872 ?_
                                                  obtain ⟨v309, h310, h⟩ := Option.bind_eq_some_iff.mp h
                                                  refine WP.sld hx dL_law_873 h310 ?_
                                                  obtain ⟨p312, h311, h⟩ := Option.bind_eq_some_iff.mp h
                                                  refine WP.callVI [.int v309] dL_law_874 lk_L_106 rfl rfl rfl (Nat.le_of_ble_eq_true rfl) (by decide) (Nat.le_of_ble_eq_true rfl) rfl (TX9_told h311) ?_
                                                  refine WP.aload_n dL_law_877 rfl rfl ?_
                                                  refine WP.aload_n dL_law_878 rfl rfl ?_
                                                  refine WP.iload_n dL_law_879 rfl rfl ?_
                                                  refine WP.iconst (v := 1) dL_law_880 (by decide) ?_
                                                  refine WP.iadd dL_law_881 ?_
                                                  obtain ⟨v313, h314, h⟩ := Option.bind_eq_some_iff.mp h
                                                  refine WP.sld hx dL_law_882 h314 ?_
                                                  obtain ⟨p316, h315, h⟩ := Option.bind_eq_some_iff.mp h
                                                  refine WP.callVI [.int v313] dL_law_883 lk_L_109 rfl rfl rfl (Nat.le_of_ble_eq_true rfl) (by decide) (Nat.le_of_ble_eq_true rfl) rfl (TX10_told h315) ?_
                                                  refine WP.icmp_eq (tgt := 950) dL_law_886 (by decide) (fun c317 => ?_) (fun c317 => ?_)
                                                  · rw [if_pos c317] at h
                                                    refine WP.iinc (v := (q.1 + 5)) dL_law_950 rfl rfl (by decide) rfl rfl ?_
                                                    refine WP.goto (tgt := 18) dL_law_953 (by decide) ?_
                                                    refine WP.fgt [true, true, true, true] rfl ?_
                                                    exact hK18 (q.1 + 5) p316.2 _ h
                                                  · rw [if_neg c317] at h
                                                    refine WP.iconst (v := 0) dL_law_889 (by decide) ?_
                                                    cases h
                                                    exact WP.zret dL_law_890 (by decide) ⟨rfl, rfl⟩
                                                · rw [if_neg c308] at h
                                                  by_cases c318 : (v2 &&& 31) = 23
                                                  · rw [if_pos c318] at h
                                                    refine WP.tbl (off := 859) (tgt := 891) dL_law_32 (by rw [c318]; decide) (by decide) ?_
                                                    refine WP.aload_n dL_law_891 rfl rfl ?_
                                                    refine WP.aload_n dL_law_892 rfl rfl ?_
                                                    refine WP.iload_n dL_law_893 rfl rfl ?_
                                                    refine WP.iconst (v := 1) dL_law_894 (by decide) ?_
                                                    refine WP.iadd dL_law_895 ?_
                                                    obtain ⟨v319, h320, h⟩ := Option.bind_eq_some_iff.mp h
                                                    refine WP.sld hx dL_law_896 h320 ?_
                                                    obtain ⟨p322, h321, h⟩ := Option.bind_eq_some_iff.mp h
                                                    refine WP.callVI [.int v319] dL_law_897 lk_L_110 rfl rfl rfl (Nat.le_of_ble_eq_true rfl) (by decide) (Nat.le_of_ble_eq_true rfl) rfl (TX9_tell h321) ?_
                                                    refine WP.aload_n dL_law_900 rfl rfl ?_
                                                    refine WP.aload_n dL_law_901 rfl rfl ?_
                                                    refine WP.iload_n dL_law_902 rfl rfl ?_
                                                    refine WP.iconst (v := 1) dL_law_903 (by decide) ?_
                                                    refine WP.iadd dL_law_904 ?_
                                                    obtain ⟨v323, h324, h⟩ := Option.bind_eq_some_iff.mp h
                                                    refine WP.sld hx dL_law_905 h324 ?_
                                                    obtain ⟨p326, h325, h⟩ := Option.bind_eq_some_iff.mp h
                                                    refine WP.callVI [.int v323] dL_law_906 lk_L_113 rfl rfl rfl (Nat.le_of_ble_eq_true rfl) (by decide) (Nat.le_of_ble_eq_true rfl) rfl (TX10_tell h325) ?_
                                                    refine WP.icmp_eq (tgt := 950) dL_law_909 (by decide) (fun c327 => ?_) (fun c327 => ?_)
                                                    · rw [if_pos c327] at h
                                                      refine WP.iinc (v := (q.1 + 5)) dL_law_950 rfl rfl (by decide) rfl rfl ?_
                                                      refine WP.goto (tgt := 18) dL_law_953 (by decide) ?_
                                                      refine WP.fgt [true, true, true, true] rfl ?_
                                                      exact hK18 (q.1 + 5) p326.2 _ h
                                                    · rw [if_neg c327] at h
                                                      refine WP.iconst (v := 0) dL_law_912 (by decide) ?_
                                                      cases h
                                                      exact WP.zret dL_law_913 (by decide) ⟨rfl, rfl⟩
                                                  · rw [if_neg c318] at h
                                                    by_cases c328 : (v2 &&& 31) = 24
                                                    · rw [if_pos c328] at h
                                                      refine WP.tbl (off := 882) (tgt := 914) dL_law_32 (by rw [c328]; decide) (by decide) ?_
                                                      refine WP.aload_n dL_law_914 rfl rfl ?_
                                                      refine WP.aload_n dL_law_915 rfl rfl ?_
                                                      refine WP.iload_n dL_law_916 rfl rfl ?_
                                                      refine WP.iconst (v := 1) dL_law_917 (by decide) ?_
                                                      refine WP.iadd dL_law_918 ?_
                                                      obtain ⟨v329, h330, h⟩ := Option.bind_eq_some_iff.mp h
                                                      refine WP.sld hx dL_law_919 h330 ?_
                                                      obtain ⟨p332, h331, h⟩ := Option.bind_eq_some_iff.mp h
                                                      refine WP.callVI [.int v329] dL_law_920 lk_L_114 rfl rfl rfl (Nat.le_of_ble_eq_true rfl) (by decide) (Nat.le_of_ble_eq_true rfl) rfl (TX9_address h331) ?_
                                                      refine WP.aload_n dL_law_923 rfl rfl ?_
                                                      refine WP.aload_n dL_law_924 rfl rfl ?_
                                                      refine WP.iload_n dL_law_925 rfl rfl ?_
                                                      refine WP.iconst (v := 1) dL_law_926 (by decide) ?_
                                                      refine WP.iadd dL_law_927 ?_
                                                      obtain ⟨v333, h334, h⟩ := Option.bind_eq_some_iff.mp h
                                                      refine WP.sld hx dL_law_928 h334 ?_
                                                      obtain ⟨p336, h335, h⟩ := Option.bind_eq_some_iff.mp h
                                                      refine WP.callVI [.int v333] dL_law_929 lk_L_117 rfl rfl rfl (Nat.le_of_ble_eq_true rfl) (by decide) (Nat.le_of_ble_eq_true rfl) rfl (TX10_address h335) ?_
                                                      refine WP.icmp_eq (tgt := 950) dL_law_932 (by decide) (fun c337 => ?_) (fun c337 => ?_)
                                                      · rw [if_pos c337] at h
                                                        refine WP.iinc (v := (q.1 + 5)) dL_law_950 rfl rfl (by decide) rfl rfl ?_
                                                        refine WP.goto (tgt := 18) dL_law_953 (by decide) ?_
                                                        refine WP.fgt [true, true, true, true] rfl ?_
                                                        exact hK18 (q.1 + 5) p336.2 _ h
                                                      · rw [if_neg c337] at h
                                                        refine WP.iconst (v := 0) dL_law_935 (by decide) ?_
                                                        cases h
                                                        exact WP.zret dL_law_936 (by decide) ⟨rfl, rfl⟩
                                                    · rw [if_neg c328] at h
                                                      by_cases c338 : (v2 &&& 31) = 25
                                                      · rw [if_pos c338] at h
                                                        refine WP.tbl (off := 905) (tgt := 937) dL_law_32 (by rw [c338]; decide) (by decide) ?_
                                                        refine WP.aload_n dL_law_937 rfl rfl ?_
                                                        obtain ⟨r340, h339, h⟩ := Option.bind_eq_some_iff.mp h
                                                        refine WP.callVI [] dL_law_938 lk_L_118 rfl rfl rfl (Nat.le_of_ble_eq_true rfl) (by decide) (Nat.le_of_ble_eq_true rfl) rfl (TX9_trace h339) ?_
                                                        refine WP.aload_n dL_law_941 rfl rfl ?_
                                                        obtain ⟨r342, h341, h⟩ := Option.bind_eq_some_iff.mp h
                                                        refine WP.callVI [] dL_law_942 lk_L_121 rfl rfl rfl (Nat.le_of_ble_eq_true rfl) (by decide) (Nat.le_of_ble_eq_true rfl) rfl (TX10_trace h341) ?_
                                                        refine WP.icmp_eq (tgt := 950) dL_law_945 (by decide) (fun c343 => ?_) (fun c343 => ?_)
                                                        · rw [if_pos c343] at h
                                                          refine WP.iinc (v := (q.1 + 5)) dL_law_950 rfl rfl (by decide) rfl rfl ?_
                                                          refine WP.goto (tgt := 18) dL_law_953 (by decide) ?_
                                                          refine WP.fgt [true, true, true, true] rfl ?_
                                                          exact hK18 (q.1 + 5) q.2 _ h
                                                        · rw [if_neg c343] at h
                                                          refine WP.iconst (v := 0) dL_law_948 (by decide) ?_
                                                          cases h
                                                          exact WP.zret dL_law_949 (by decide) ⟨rfl, rfl⟩
                                                      · rw [if_neg c338] at h
                                                        refine WP.tbl (off := 918) (tgt := 950) dL_law_32 (by
                                                            have n0 := lv_neT (k := 0) (a := 0) (fun z => c4 (z)) (by decide)
                                                            have n1 := lv_neT (k := 1) (a := 1) (fun z => c22 (z)) (by decide)
                                                            have n2 := lv_neT (k := 2) (a := 2) (fun z => c44 (z)) (by decide)
                                                            have n3 := lv_neT (k := 3) (a := 3) (fun z => c62 (z)) (by decide)
                                                            have n4 := lv_neT (k := 4) (a := 4) (fun z => c72 (z)) (by decide)
                                                            have n5 := lv_neT (k := 5) (a := 5) (fun z => c86 (z)) (by decide)
                                                            have n6 := lv_neT (k := 6) (a := 6) (fun z => c100 (z)) (by decide)
                                                            have n7 := lv_neT (k := 7) (a := 7) (fun z => c118 (z)) (by decide)
                                                            have n8 := lv_neT (k := 8) (a := 8) (fun z => c132 (z)) (by decide)
                                                            have n9 := lv_neT (k := 9) (a := 9) (fun z => c146 (z)) (by decide)
                                                            have n10 := lv_neT (k := 10) (a := 10) (fun z => c160 (z)) (by decide)
                                                            have n11 := lv_neT (k := 11) (a := 11) (fun z => c174 (z)) (by decide)
                                                            have n12 := lv_neT (k := 12) (a := 12) (fun z => c184 (z)) (by decide)
                                                            have n13 := lv_neT (k := 13) (a := 13) (fun z => c198 (z)) (by decide)
                                                            have n14 := lv_neT (k := 14) (a := 14) (fun z => c212 (z)) (by decide)
                                                            have n15 := lv_neT (k := 15) (a := 15) (fun z => c234 (z)) (by decide)
                                                            have n16 := lv_neT (k := 16) (a := 16) (fun z => c244 (z)) (by decide)
                                                            have n17 := lv_neT (k := 17) (a := 17) (fun z => c258 (z)) (by decide)
                                                            have n18 := lv_neT (k := 18) (a := 18) (fun z => c268 (z)) (by decide)
                                                            have n19 := lv_neT (k := 19) (a := 19) (fun z => c282 (z)) (by decide)
                                                            have n20 := lv_neT (k := 20) (a := 20) (fun z => c292 (z)) (by decide)
                                                            have n21 := lv_neT (k := 21) (a := 21) (fun z => c302 (z)) (by decide)
                                                            have n22 := lv_neT (k := 22) (a := 22) (fun z => c308 (z)) (by decide)
                                                            have n23 := lv_neT (k := 23) (a := 23) (fun z => c318 (z)) (by decide)
                                                            have n24 := lv_neT (k := 24) (a := 24) (fun z => c328 (z)) (by decide)
                                                            have n25 := lv_neT (k := 25) (a := 25) (fun z => c338 (z)) (by decide)
                                                            exact swT_def (by omega)) (by decide) ?_
                                                        refine WP.iinc (v := (q.1 + 5)) dL_law_950 rfl rfl (by decide) rfl rfl ?_
                                                        refine WP.goto (tgt := 18) dL_law_953 (by decide) ?_
                                                        refine WP.fgt [true, true, true, true] rfl ?_
                                                        exact hK18 (q.1 + 5) q.2 _ h
theorem uL_law_18 {l : Launch} {G : va_G} {tc : Nat → ClassId} {D : Nat → Nat} {N : Nat} {xs : Nat → Int32} {Ln : Nat} {EX : State → Prop} (hx : ∀ s, EX s → va_X (D 96) Ln xs s s.heap ∧ D 96 < s.heap.size ∧ ¬ inA D lay (D 96)) (nn : Nat) : ∀ (z0 : Int32) (z1 : Mm) (R : (Int32 × Mm)), lp (BL_law_18 N xs Ln) nn (z0, z1) = some R → WP l G tc D lay EX RL cL_law 4 room_1 (.initialized RL) 18 [some (.ref 96), some (.ref 0), some (.ref 69), some (.int z0)] [] z1 (RetQ cL_law (some .boolean) (RQI R.1 R.2)) := fun z0 z1 R hh => tL_law_18 hx nn (z0, z1) R hh
set_option maxRecDepth 20000 in
theorem TL_law {l : Launch} {G : va_G} {tc : Nat → ClassId} {D : Nat → Nat} {N : Nat} {xs : Nat → Int32} {Ln : Nat} {EX : State → Prop} (hx : ∀ s, EX s → va_X (D 96) Ln xs s s.heap ∧ D 96 < s.heap.size ∧ ¬ inA D lay (D 96)) {M : Mm} {R : (Int32 × Mm)} (h : FL_law N xs Ln M = some R) : WP l G tc D lay EX RL cL_law 4 room_1 (.initialized RL) 16 [some (.ref 96), some (.ref 0), some (.ref 69), none] [] M (RetQ cL_law (some .boolean) (RQI R.1 R.2)) := by
  unfold FL_law at h
  refine WP.iconst (v := 0) dL_law_16 (by decide) ?_
  refine WP.istore_n dL_law_17 rfl (by decide) rfl rfl ?_
  refine WP.fgt [true, true, true, true] rfl ?_
  exact uL_law_18 hx N 0 M _ h
