/-! ===== the constructors: by program ===== -/
/-- the same cells, told from a lower address on -/
def shL (a : Nat) : LC → LC
  | .inl q => .inl (q.1, q.2.map (Option.map (· + a)))
  | .inr (.inl q) => .inr (.inl q)
  | .inr (.inr (.inl n)) => .inr (.inr (.inl n))
  | .inr (.inr (.inr rs)) => .inr (.inr (.inr (rs.map (· + a))))
theorem flV_shift {B a : Nat} {M M' : Mm} {k : Nat} (h : M'.1 (a + k) = M.1 k) : ∀ (fs : List (Option Nat)) (j : Nat), flV (fun x => B + a + x) M k j fs = flV (fun x => B + x) M' (a + k) j (fs.map (Option.map (· + a)))
  | [], _ => rfl
  | some r :: t, j => by
    simp only [flV, List.map_cons, Option.map_some]
    rw [flV_shift h t (j + 1), show B + a + r = B + (r + a) by omega]
  | none :: t, j => by
    simp only [flV, List.map_cons, Option.map_none]
    rw [flV_shift h t (j + 1), h]
theorem ceV_shift {tc : Nat → ClassId} {B a : Nat} {M M' : Mm} {k : Nat} (h1 : M'.1 (a + k) = M.1 k) (h2 : M'.2 (a + k) = M.2 k) (c : LC) : ceV tc (fun x => B + a + x) M k c = ceV tc (fun x => B + x) M' (a + k) (shL a c) := by
  match c with
  | .inl q => simp only [ceV, shL]; rw [flV_shift h1 q.2 0]
  | .inr (.inl q) => simp only [ceV, shL, h1]
  | .inr (.inr (.inl n)) => simp only [ceV, shL, h2]
  | .inr (.inr (.inr rs)) =>
    simp only [ceV, shL, List.length_map, List.getElem?_map, Option.map_map]
    have e : (fun x => B + a + x) = ((fun x => B + x) ∘ fun x => x + a) := funext fun x => by
      show B + a + x = B + (x + a)
      omega
    rw [e]
theorem esOf_shift {tc : Nat → ClassId} {B a : Nat} {M M' : Mm} : ∀ (L : List LC) (k : Nat), (∀ j, j < k + L.length → M'.1 (a + j) = M.1 j ∧ M'.2 (a + j) = M.2 j) → esOf tc (fun x => B + a + x) M k L = esOf tc (fun x => B + x) M' (a + k) (L.map (shL a))
  | [], _, _ => rfl
  | c :: t, k, h => by
    simp only [esOf, List.map_cons]
    rw [ceV_shift (h k (by simp)).1 (h k (by simp)).2, esOf_shift t (k + 1) (fun j hj => h j (by simp; omega))]
    rfl
theorem KP.abs {l : Launch} {G : va_G} {tc : Nat → ClassId} {B nT : Nat} {ini : Bool} {own : String} {cc : ByteArray} {nL : Nat} {rm : Room} {wc : Cond} {pc : Nat} {lv : List (Option Value)} {st : List Value} {cells slots : Nat} {Q : Nat → List (Option Value) → List Value → List va_E → Nat → Nat → Prop} {e : va_E} {r xs : List va_E} {m m' : Nat} (hr : r.length = m) (hm : m + xs.length = m') (k : ∀ r', r' = r ++ xs → r'.length = m' → KP l G tc B nT ini own cc nL rm wc pc lv st (e :: r') cells slots Q) : KP l G tc B nT ini own cc nL rm wc pc lv st ((e :: r) ++ xs) cells slots Q :=
  k (r ++ xs) rfl (by rw [List.length_append, hr, hm])
theorem at_app {e : va_E} {r xs : List va_E} {m i : Nat} {x : va_E} (hr : r.length = m) (hx : xs[i]? = some x) : ((e :: r) ++ xs)[m + 1 + i]? = some x := by
  rw [List.getElem?_append_right (by simp; omega)]
  rw [show m + 1 + i - (e :: r).length = i by simp; omega]
  exact hx
theorem set_app {e : va_E} {r xs : List va_E} {m i : Nat} {x : va_E} (hr : r.length = m) : ((e :: r) ++ xs).set (m + 1 + i) x = (e :: r) ++ xs.set i x := by
  rw [List.set_append_right _ _ (by simp; omega)]
  rw [show m + 1 + i - (e :: r).length = i by simp; omega]
theorem KP.re {l : Launch} {G : va_G} {tc : Nat → ClassId} {B nT : Nat} {ini : Bool} {own : String} {cc : ByteArray} {nL : Nat} {rm : Room} {wc : Cond} {pc : Nat} {lv : List (Option Value)} {st : List Value} {cells slots : Nat} {Q : Nat → List (Option Value) → List Value → List va_E → Nat → Nat → Prop} {es es' : List va_E} (h : es = es') (k : KP l G tc B nT ini own cc nL rm wc pc lv st es' cells slots Q) : KP l G tc B nT ini own cc nL rm wc pc lv st es cells slots Q := by rw [h]; exact k
theorem wk_47 : Cond.initialized RX2 ∈ tbG := tbG_of (List.mem_of_getElem? (i := 47) (by decide +kernel)) (by decide +kernel)
theorem wk_48 : Cond.initialized RX0 ∈ tbG := tbG_of (List.mem_of_getElem? (i := 48) (by decide +kernel)) (by decide +kernel)
theorem wk_49 : Cond.initialized RX3 ∈ tbG := tbG_of (List.mem_of_getElem? (i := 49) (by decide +kernel)) (by decide +kernel)
theorem wk_50 : Cond.initialized RX4 ∈ tbG := tbG_of (List.mem_of_getElem? (i := 50) (by decide +kernel)) (by decide +kernel)
theorem wk_52 : Cond.initialized RX6 ∈ tbG := tbG_of (List.mem_of_getElem? (i := 52) (by decide +kernel)) (by decide +kernel)
theorem wk_53 : Cond.initialized RX1 ∈ tbG := tbG_of (List.mem_of_getElem? (i := 53) (by decide +kernel)) (by decide +kernel)
theorem wk_54 : Cond.initialized RX5 ∈ tbG := tbG_of (List.mem_of_getElem? (i := 54) (by decide +kernel)) (by decide +kernel)
theorem wk_55 : Cond.initialized RX8 ∈ tbG := tbG_of (List.mem_of_getElem? (i := 55) (by decide +kernel)) (by decide +kernel)
theorem wk_56 : Cond.initialized RX7 ∈ tbG := tbG_of (List.mem_of_getElem? (i := 56) (by decide +kernel)) (by decide +kernel)
theorem wk_64 : Cond.methodLink RX9 1 Lib.objectInit ∈ tbG := tbG_of (List.mem_of_getElem? (i := 64) (by decide +kernel)) (by decide +kernel)
theorem wk_65 : Cond.instanceMethod Lib.objectInit ∈ tbG := tbG_of (List.mem_of_getElem? (i := 65) (by decide +kernel)) (by decide +kernel)
theorem wk_66 : Cond.code Lib.objectInit ⟨#[0xb1]⟩ 1 none ∈ tbG := tbG_of (List.mem_of_getElem? (i := 66) (by decide +kernel)) (by decide +kernel)
theorem wk_67 : Cond.classLink RX9 7 RX2 ∈ tbG := tbG_of (List.mem_of_getElem? (i := 67) (by decide +kernel)) (by decide +kernel)
theorem wk_68 : Cond.instantiable RX2 6 ∈ tbG := tbG_of (List.mem_of_getElem? (i := 68) (by decide +kernel)) (by decide +kernel)
theorem wk_70 : Cond.instanceMethod yX2_init ∈ tbG := tbG_of (List.mem_of_getElem? (i := 70) (by decide +kernel)) (by decide +kernel)
theorem wk_71 : Cond.code yX2_init cX2_init 1 none ∈ tbG := tbG_of (List.mem_of_getElem? (i := 71) (by decide +kernel)) (by decide +kernel)
theorem wk_72 : Cond.methodLink RX2 3 Lib.objectInit ∈ tbG := tbG_of (List.mem_of_getElem? (i := 72) (by decide +kernel)) (by decide +kernel)
theorem wk_73 : Cond.classLink RX2 9 RX0 ∈ tbG := tbG_of (List.mem_of_getElem? (i := 73) (by decide +kernel)) (by decide +kernel)
theorem wk_74 : Cond.instantiable RX0 7 ∈ tbG := tbG_of (List.mem_of_getElem? (i := 74) (by decide +kernel)) (by decide +kernel)
theorem wk_76 : Cond.instanceMethod yX0_init ∈ tbG := tbG_of (List.mem_of_getElem? (i := 76) (by decide +kernel)) (by decide +kernel)
theorem wk_77 : Cond.code yX0_init cX0_init 1 none ∈ tbG := tbG_of (List.mem_of_getElem? (i := 77) (by decide +kernel)) (by decide +kernel)
theorem wk_78 : Cond.methodLink RX0 3 Lib.objectInit ∈ tbG := tbG_of (List.mem_of_getElem? (i := 78) (by decide +kernel)) (by decide +kernel)
theorem wk_79 : Cond.classLink RX0 22 ("[" ++ (FieldType.array .int).toString) ∈ tbG := tbG_of (List.mem_of_getElem? (i := 79) (by decide +kernel)) (by decide +kernel)
theorem wk_81 : Cond.fieldLink RX0 9 (TX0 0).1 (TX0 0).2.1 (TX0 0).2.2.1 ∈ tbG := tbG_of (List.mem_of_getElem? (i := 81) (by decide +kernel)) (by decide +kernel)
theorem wk_85 : Cond.fieldLink RX0 15 (TX0 1).1 (TX0 1).2.1 (TX0 1).2.2.1 ∈ tbG := tbG_of (List.mem_of_getElem? (i := 85) (by decide +kernel)) (by decide +kernel)
theorem wk_89 : Cond.fieldLink RX0 18 (TX0 2).1 (TX0 2).2.1 (TX0 2).2.2.1 ∈ tbG := tbG_of (List.mem_of_getElem? (i := 89) (by decide +kernel)) (by decide +kernel)
theorem wk_93 : Cond.fieldLink RX0 24 (TX0 3).1 (TX0 3).2.1 (TX0 3).2.2.1 ∈ tbG := tbG_of (List.mem_of_getElem? (i := 93) (by decide +kernel)) (by decide +kernel)
theorem wk_98 : Cond.fieldLink RX0 27 (TX0 4).1 (TX0 4).2.1 (TX0 4).2.2.1 ∈ tbG := tbG_of (List.mem_of_getElem? (i := 98) (by decide +kernel)) (by decide +kernel)
theorem wk_101 : Cond.fieldLink RX0 30 (TX0 5).1 (TX0 5).2.1 (TX0 5).2.2.1 ∈ tbG := tbG_of (List.mem_of_getElem? (i := 101) (by decide +kernel)) (by decide +kernel)
theorem wk_125 : Cond.arrayClass .int ∈ tbG := tbG_of (List.mem_of_getElem? (i := 125) (by decide +kernel)) (by decide +kernel)
theorem wk_126 : Cond.arrayClass .boolean ∈ tbG := tbG_of (List.mem_of_getElem? (i := 126) (by decide +kernel)) (by decide +kernel)
theorem wk_127 : Cond.classLink RX2 18 RX3 ∈ tbG := tbG_of (List.mem_of_getElem? (i := 127) (by decide +kernel)) (by decide +kernel)
theorem wk_128 : Cond.instantiable RX3 6 ∈ tbG := tbG_of (List.mem_of_getElem? (i := 128) (by decide +kernel)) (by decide +kernel)
theorem wk_130 : Cond.instanceMethod yX3_init ∈ tbG := tbG_of (List.mem_of_getElem? (i := 130) (by decide +kernel)) (by decide +kernel)
theorem wk_131 : Cond.code yX3_init cX3_init 1 none ∈ tbG := tbG_of (List.mem_of_getElem? (i := 131) (by decide +kernel)) (by decide +kernel)
theorem wk_132 : Cond.methodLink RX3 3 Lib.objectInit ∈ tbG := tbG_of (List.mem_of_getElem? (i := 132) (by decide +kernel)) (by decide +kernel)
theorem wk_133 : Cond.fieldLink RX3 9 (TX3 0).1 (TX3 0).2.1 (TX3 0).2.2.1 ∈ tbG := tbG_of (List.mem_of_getElem? (i := 133) (by decide +kernel)) (by decide +kernel)
theorem wk_135 : Cond.fieldLink RX3 15 (TX3 1).1 (TX3 1).2.1 (TX3 1).2.2.1 ∈ tbG := tbG_of (List.mem_of_getElem? (i := 135) (by decide +kernel)) (by decide +kernel)
theorem wk_137 : Cond.fieldLink RX3 18 (TX3 2).1 (TX3 2).2.1 (TX3 2).2.2.1 ∈ tbG := tbG_of (List.mem_of_getElem? (i := 137) (by decide +kernel)) (by decide +kernel)
theorem wk_139 : Cond.fieldLink RX3 21 (TX3 3).1 (TX3 3).2.1 (TX3 3).2.2.1 ∈ tbG := tbG_of (List.mem_of_getElem? (i := 139) (by decide +kernel)) (by decide +kernel)
theorem wk_141 : Cond.fieldLink RX3 24 (TX3 4).1 (TX3 4).2.1 (TX3 4).2.2.1 ∈ tbG := tbG_of (List.mem_of_getElem? (i := 141) (by decide +kernel)) (by decide +kernel)
theorem wk_159 : Cond.fieldLink RX2 12 (TX2 0).1 (TX2 0).2.1 (TX2 0).2.2.1 ∈ tbG := tbG_of (List.mem_of_getElem? (i := 159) (by decide +kernel)) (by decide +kernel)
theorem wk_163 : Cond.fieldLink RX2 21 (TX2 1).1 (TX2 1).2.1 (TX2 1).2.2.1 ∈ tbG := tbG_of (List.mem_of_getElem? (i := 163) (by decide +kernel)) (by decide +kernel)
theorem wk_166 : Cond.fieldLink RX2 25 (TX2 2).1 (TX2 2).2.1 (TX2 2).2.2.1 ∈ tbG := tbG_of (List.mem_of_getElem? (i := 166) (by decide +kernel)) (by decide +kernel)
theorem wk_168 : Cond.fieldLink RX2 29 (TX2 3).1 (TX2 3).2.1 (TX2 3).2.2.1 ∈ tbG := tbG_of (List.mem_of_getElem? (i := 168) (by decide +kernel)) (by decide +kernel)
theorem wk_170 : Cond.fieldLink RX2 32 (TX2 4).1 (TX2 4).2.1 (TX2 4).2.2.1 ∈ tbG := tbG_of (List.mem_of_getElem? (i := 170) (by decide +kernel)) (by decide +kernel)
theorem wk_186 : Cond.classLink RX9 16 RX4 ∈ tbG := tbG_of (List.mem_of_getElem? (i := 186) (by decide +kernel)) (by decide +kernel)
theorem wk_187 : Cond.instantiable RX4 2 ∈ tbG := tbG_of (List.mem_of_getElem? (i := 187) (by decide +kernel)) (by decide +kernel)
theorem wk_189 : Cond.instanceMethod yX4_init ∈ tbG := tbG_of (List.mem_of_getElem? (i := 189) (by decide +kernel)) (by decide +kernel)
theorem wk_190 : Cond.code yX4_init cX4_init 1 none ∈ tbG := tbG_of (List.mem_of_getElem? (i := 190) (by decide +kernel)) (by decide +kernel)
theorem wk_191 : Cond.methodLink RX4 3 Lib.objectInit ∈ tbG := tbG_of (List.mem_of_getElem? (i := 191) (by decide +kernel)) (by decide +kernel)
theorem wk_192 : Cond.fieldLink RX4 9 (TX4 0).1 (TX4 0).2.1 (TX4 0).2.2.1 ∈ tbG := tbG_of (List.mem_of_getElem? (i := 192) (by decide +kernel)) (by decide +kernel)
theorem wk_201 : Cond.classLink RX9 23 ("[" ++ (FieldType.array .int).toString) ∈ tbG := tbG_of (List.mem_of_getElem? (i := 201) (by decide +kernel)) (by decide +kernel)
theorem wk_202 : Cond.constant RX9 28 (-2000000000) ∈ tbG := tbG_of (List.mem_of_getElem? (i := 202) (by decide +kernel)) (by decide +kernel)
theorem wk_206 : Cond.classLink RX9 35 RX6 ∈ tbG := tbG_of (List.mem_of_getElem? (i := 206) (by decide +kernel)) (by decide +kernel)
theorem wk_207 : Cond.instantiable RX6 3 ∈ tbG := tbG_of (List.mem_of_getElem? (i := 207) (by decide +kernel)) (by decide +kernel)
theorem wk_209 : Cond.instanceMethod yX6_init ∈ tbG := tbG_of (List.mem_of_getElem? (i := 209) (by decide +kernel)) (by decide +kernel)
theorem wk_210 : Cond.code yX6_init cX6_init 1 none ∈ tbG := tbG_of (List.mem_of_getElem? (i := 210) (by decide +kernel)) (by decide +kernel)
theorem wk_211 : Cond.methodLink RX6 3 Lib.objectInit ∈ tbG := tbG_of (List.mem_of_getElem? (i := 211) (by decide +kernel)) (by decide +kernel)
theorem wk_212 : Cond.fieldLink RX6 9 (TX6 0).1 (TX6 0).2.1 (TX6 0).2.2.1 ∈ tbG := tbG_of (List.mem_of_getElem? (i := 212) (by decide +kernel)) (by decide +kernel)
theorem wk_214 : Cond.fieldLink RX6 15 (TX6 1).1 (TX6 1).2.1 (TX6 1).2.2.1 ∈ tbG := tbG_of (List.mem_of_getElem? (i := 214) (by decide +kernel)) (by decide +kernel)
theorem wk_216 : Cond.fieldLink RX6 19 (TX6 2).1 (TX6 2).2.1 (TX6 2).2.2.1 ∈ tbG := tbG_of (List.mem_of_getElem? (i := 216) (by decide +kernel)) (by decide +kernel)
theorem wk_225 : Cond.classLink RX9 42 RX1 ∈ tbG := tbG_of (List.mem_of_getElem? (i := 225) (by decide +kernel)) (by decide +kernel)
theorem wk_226 : Cond.instantiable RX1 2 ∈ tbG := tbG_of (List.mem_of_getElem? (i := 226) (by decide +kernel)) (by decide +kernel)
theorem wk_228 : Cond.instanceMethod yX1_init ∈ tbG := tbG_of (List.mem_of_getElem? (i := 228) (by decide +kernel)) (by decide +kernel)
theorem wk_229 : Cond.code yX1_init cX1_init 1 none ∈ tbG := tbG_of (List.mem_of_getElem? (i := 229) (by decide +kernel)) (by decide +kernel)
theorem wk_230 : Cond.methodLink RX1 3 Lib.objectInit ∈ tbG := tbG_of (List.mem_of_getElem? (i := 230) (by decide +kernel)) (by decide +kernel)
theorem wk_231 : Cond.fieldLink RX1 9 (TX1 0).1 (TX1 0).2.1 (TX1 0).2.2.1 ∈ tbG := tbG_of (List.mem_of_getElem? (i := 231) (by decide +kernel)) (by decide +kernel)
theorem wk_240 : Cond.classLink RX9 49 RX5 ∈ tbG := tbG_of (List.mem_of_getElem? (i := 240) (by decide +kernel)) (by decide +kernel)
theorem wk_241 : Cond.instantiable RX5 6 ∈ tbG := tbG_of (List.mem_of_getElem? (i := 241) (by decide +kernel)) (by decide +kernel)
theorem wk_243 : Cond.instanceMethod yX5_init ∈ tbG := tbG_of (List.mem_of_getElem? (i := 243) (by decide +kernel)) (by decide +kernel)
theorem wk_244 : Cond.code yX5_init cX5_init 1 none ∈ tbG := tbG_of (List.mem_of_getElem? (i := 244) (by decide +kernel)) (by decide +kernel)
theorem wk_245 : Cond.methodLink RX5 3 Lib.objectInit ∈ tbG := tbG_of (List.mem_of_getElem? (i := 245) (by decide +kernel)) (by decide +kernel)
theorem wk_246 : Cond.classLink RX5 22 ("[" ++ (FieldType.array .int).toString) ∈ tbG := tbG_of (List.mem_of_getElem? (i := 246) (by decide +kernel)) (by decide +kernel)
theorem wk_247 : Cond.fieldLink RX5 9 (TX5 0).1 (TX5 0).2.1 (TX5 0).2.2.1 ∈ tbG := tbG_of (List.mem_of_getElem? (i := 247) (by decide +kernel)) (by decide +kernel)
theorem wk_249 : Cond.fieldLink RX5 15 (TX5 1).1 (TX5 1).2.1 (TX5 1).2.2.1 ∈ tbG := tbG_of (List.mem_of_getElem? (i := 249) (by decide +kernel)) (by decide +kernel)
theorem wk_251 : Cond.fieldLink RX5 18 (TX5 2).1 (TX5 2).2.1 (TX5 2).2.2.1 ∈ tbG := tbG_of (List.mem_of_getElem? (i := 251) (by decide +kernel)) (by decide +kernel)
theorem wk_253 : Cond.fieldLink RX5 24 (TX5 3).1 (TX5 3).2.1 (TX5 3).2.2.1 ∈ tbG := tbG_of (List.mem_of_getElem? (i := 253) (by decide +kernel)) (by decide +kernel)
theorem wk_255 : Cond.fieldLink RX5 27 (TX5 4).1 (TX5 4).2.1 (TX5 4).2.2.1 ∈ tbG := tbG_of (List.mem_of_getElem? (i := 255) (by decide +kernel)) (by decide +kernel)
theorem wk_272 : Cond.classLink RX9 56 RX8 ∈ tbG := tbG_of (List.mem_of_getElem? (i := 272) (by decide +kernel)) (by decide +kernel)
theorem wk_273 : Cond.instantiable RX8 5 ∈ tbG := tbG_of (List.mem_of_getElem? (i := 273) (by decide +kernel)) (by decide +kernel)
theorem wk_274 : Cond.methodLink RX9 58 yX8_init ∈ tbG := tbG_of (List.mem_of_getElem? (i := 274) (by decide +kernel)) (by decide +kernel)
theorem wk_275 : Cond.instanceMethod yX8_init ∈ tbG := tbG_of (List.mem_of_getElem? (i := 275) (by decide +kernel)) (by decide +kernel)
theorem wk_276 : Cond.code yX8_init cX8_init 1 none ∈ tbG := tbG_of (List.mem_of_getElem? (i := 276) (by decide +kernel)) (by decide +kernel)
theorem wk_277 : Cond.methodLink RX8 3 Lib.objectInit ∈ tbG := tbG_of (List.mem_of_getElem? (i := 277) (by decide +kernel)) (by decide +kernel)
theorem wk_278 : Cond.classLink RX8 18 RX6 ∈ tbG := tbG_of (List.mem_of_getElem? (i := 278) (by decide +kernel)) (by decide +kernel)
theorem wk_280 : Cond.constant RX8 25 (-2000000000) ∈ tbG := tbG_of (List.mem_of_getElem? (i := 280) (by decide +kernel)) (by decide +kernel)
theorem wk_282 : Cond.fieldLink RX8 9 (TX8 0).1 (TX8 0).2.1 (TX8 0).2.2.1 ∈ tbG := tbG_of (List.mem_of_getElem? (i := 282) (by decide +kernel)) (by decide +kernel)
theorem wk_284 : Cond.fieldLink RX8 15 (TX8 1).1 (TX8 1).2.1 (TX8 1).2.2.1 ∈ tbG := tbG_of (List.mem_of_getElem? (i := 284) (by decide +kernel)) (by decide +kernel)
theorem wk_285 : Cond.fieldLink RX8 21 (TX8 2).1 (TX8 2).2.1 (TX8 2).2.2.1 ∈ tbG := tbG_of (List.mem_of_getElem? (i := 285) (by decide +kernel)) (by decide +kernel)
theorem wk_300 : Cond.classLink RX9 63 RX7 ∈ tbG := tbG_of (List.mem_of_getElem? (i := 300) (by decide +kernel)) (by decide +kernel)
theorem wk_301 : Cond.instantiable RX7 1 ∈ tbG := tbG_of (List.mem_of_getElem? (i := 301) (by decide +kernel)) (by decide +kernel)
theorem wk_303 : Cond.instanceMethod yX7_init ∈ tbG := tbG_of (List.mem_of_getElem? (i := 303) (by decide +kernel)) (by decide +kernel)
theorem wk_304 : Cond.code yX7_init cX7_init 1 none ∈ tbG := tbG_of (List.mem_of_getElem? (i := 304) (by decide +kernel)) (by decide +kernel)
theorem wk_305 : Cond.methodLink RX7 3 Lib.objectInit ∈ tbG := tbG_of (List.mem_of_getElem? (i := 305) (by decide +kernel)) (by decide +kernel)
theorem wk_311 : Cond.fieldLink RX9 10 (TX9 0).1 (TX9 0).2.1 (TX9 0).2.2.1 ∈ tbG := tbG_of (List.mem_of_getElem? (i := 311) (by decide +kernel)) (by decide +kernel)
theorem wk_312 : Cond.fieldLink RX9 19 (TX9 1).1 (TX9 1).2.1 (TX9 1).2.2.1 ∈ tbG := tbG_of (List.mem_of_getElem? (i := 312) (by decide +kernel)) (by decide +kernel)
theorem wk_313 : Cond.fieldLink RX9 25 (TX9 2).1 (TX9 2).2.1 (TX9 2).2.2.1 ∈ tbG := tbG_of (List.mem_of_getElem? (i := 313) (by decide +kernel)) (by decide +kernel)
theorem wk_314 : Cond.fieldLink RX9 38 (TX9 3).1 (TX9 3).2.1 (TX9 3).2.2.1 ∈ tbG := tbG_of (List.mem_of_getElem? (i := 314) (by decide +kernel)) (by decide +kernel)
theorem wk_315 : Cond.fieldLink RX9 45 (TX9 4).1 (TX9 4).2.1 (TX9 4).2.2.1 ∈ tbG := tbG_of (List.mem_of_getElem? (i := 315) (by decide +kernel)) (by decide +kernel)
theorem wk_316 : Cond.fieldLink RX9 52 (TX9 5).1 (TX9 5).2.1 (TX9 5).2.2.1 ∈ tbG := tbG_of (List.mem_of_getElem? (i := 316) (by decide +kernel)) (by decide +kernel)
theorem wk_317 : Cond.fieldLink RX9 59 (TX9 6).1 (TX9 6).2.1 (TX9 6).2.2.1 ∈ tbG := tbG_of (List.mem_of_getElem? (i := 317) (by decide +kernel)) (by decide +kernel)
theorem wk_318 : Cond.fieldLink RX9 66 (TX9 7).1 (TX9 7).2.1 (TX9 7).2.2.1 ∈ tbG := tbG_of (List.mem_of_getElem? (i := 318) (by decide +kernel)) (by decide +kernel)
theorem wk_690 : Cond.methodLink RX10 1 Lib.objectInit ∈ tbG := tbG_of (List.mem_of_getElem? (i := 690) (by decide +kernel)) (by decide +kernel)
theorem wk_693 : Cond.fieldLink RX10 7 (TX10 1).1 (TX10 1).2.1 (TX10 1).2.2.1 ∈ tbG := tbG_of (List.mem_of_getElem? (i := 693) (by decide +kernel)) (by decide +kernel)
theorem wk_694 : Cond.fieldLink RX10 13 (TX10 2).1 (TX10 2).2.1 (TX10 2).2.2.1 ∈ tbG := tbG_of (List.mem_of_getElem? (i := 694) (by decide +kernel)) (by decide +kernel)
theorem wk_695 : Cond.fieldLink RX10 16 (TX10 3).1 (TX10 3).2.1 (TX10 3).2.2.1 ∈ tbG := tbG_of (List.mem_of_getElem? (i := 695) (by decide +kernel)) (by decide +kernel)
theorem wk_696 : Cond.fieldLink RX10 19 (TX10 4).1 (TX10 4).2.1 (TX10 4).2.2.1 ∈ tbG := tbG_of (List.mem_of_getElem? (i := 696) (by decide +kernel)) (by decide +kernel)
theorem wk_698 : Cond.fieldLink RX10 22 (TX10 6).1 (TX10 6).2.1 (TX10 6).2.2.1 ∈ tbG := tbG_of (List.mem_of_getElem? (i := 698) (by decide +kernel)) (by decide +kernel)
theorem wk_699 : Cond.fieldLink RX10 25 (TX10 7).1 (TX10 7).2.1 (TX10 7).2.2.1 ∈ tbG := tbG_of (List.mem_of_getElem? (i := 699) (by decide +kernel)) (by decide +kernel)
theorem wk_700 : Cond.fieldLink RX10 28 (TX10 8).1 (TX10 8).2.1 (TX10 8).2.2.1 ∈ tbG := tbG_of (List.mem_of_getElem? (i := 700) (by decide +kernel)) (by decide +kernel)
theorem wk_701 : Cond.fieldLink RX10 31 (TX10 9).1 (TX10 9).2.1 (TX10 9).2.2.1 ∈ tbG := tbG_of (List.mem_of_getElem? (i := 701) (by decide +kernel)) (by decide +kernel)
theorem wk_703 : Cond.fieldLink RX10 34 (TX10 11).1 (TX10 11).2.1 (TX10 11).2.2.1 ∈ tbG := tbG_of (List.mem_of_getElem? (i := 703) (by decide +kernel)) (by decide +kernel)
theorem wk_704 : Cond.fieldLink RX10 37 (TX10 12).1 (TX10 12).2.1 (TX10 12).2.2.1 ∈ tbG := tbG_of (List.mem_of_getElem? (i := 704) (by decide +kernel)) (by decide +kernel)
theorem wk_705 : Cond.fieldLink RX10 40 (TX10 13).1 (TX10 13).2.1 (TX10 13).2.2.1 ∈ tbG := tbG_of (List.mem_of_getElem? (i := 705) (by decide +kernel)) (by decide +kernel)
theorem wk_706 : Cond.fieldLink RX10 44 (TX10 14).1 (TX10 14).2.1 (TX10 14).2.2.1 ∈ tbG := tbG_of (List.mem_of_getElem? (i := 706) (by decide +kernel)) (by decide +kernel)
theorem wk_708 : Cond.fieldLink RX10 47 (TX10 16).1 (TX10 16).2.1 (TX10 16).2.2.1 ∈ tbG := tbG_of (List.mem_of_getElem? (i := 708) (by decide +kernel)) (by decide +kernel)
theorem wk_709 : Cond.fieldLink RX10 50 (TX10 17).1 (TX10 17).2.1 (TX10 17).2.2.1 ∈ tbG := tbG_of (List.mem_of_getElem? (i := 709) (by decide +kernel)) (by decide +kernel)
theorem wk_710 : Cond.fieldLink RX10 53 (TX10 18).1 (TX10 18).2.1 (TX10 18).2.2.1 ∈ tbG := tbG_of (List.mem_of_getElem? (i := 710) (by decide +kernel)) (by decide +kernel)
theorem wk_711 : Cond.fieldLink RX10 57 (TX10 19).1 (TX10 19).2.1 (TX10 19).2.2.1 ∈ tbG := tbG_of (List.mem_of_getElem? (i := 711) (by decide +kernel)) (by decide +kernel)
theorem wk_712 : Cond.fieldLink RX10 60 (TX10 20).1 (TX10 20).2.1 (TX10 20).2.2.1 ∈ tbG := tbG_of (List.mem_of_getElem? (i := 712) (by decide +kernel)) (by decide +kernel)
theorem wk_713 : Cond.fieldLink RX10 63 (TX10 21).1 (TX10 21).2.1 (TX10 21).2.2.1 ∈ tbG := tbG_of (List.mem_of_getElem? (i := 713) (by decide +kernel)) (by decide +kernel)
theorem wk_714 : Cond.fieldLink RX10 66 (TX10 22).1 (TX10 22).2.1 (TX10 22).2.2.1 ∈ tbG := tbG_of (List.mem_of_getElem? (i := 714) (by decide +kernel)) (by decide +kernel)
theorem wk_716 : Cond.fieldLink RX10 69 (TX10 24).1 (TX10 24).2.1 (TX10 24).2.2.1 ∈ tbG := tbG_of (List.mem_of_getElem? (i := 716) (by decide +kernel)) (by decide +kernel)
theorem wk_718 : Cond.fieldLink RX10 72 (TX10 26).1 (TX10 26).2.1 (TX10 26).2.2.1 ∈ tbG := tbG_of (List.mem_of_getElem? (i := 718) (by decide +kernel)) (by decide +kernel)
theorem wk_719 : Cond.fieldLink RX10 75 (TX10 27).1 (TX10 27).2.1 (TX10 27).2.2.1 ∈ tbG := tbG_of (List.mem_of_getElem? (i := 719) (by decide +kernel)) (by decide +kernel)
theorem wk_720 : Cond.fieldLink RX10 78 (TX10 28).1 (TX10 28).2.1 (TX10 28).2.2.1 ∈ tbG := tbG_of (List.mem_of_getElem? (i := 720) (by decide +kernel)) (by decide +kernel)
theorem wk_721 : Cond.fieldLink RX10 81 (TX10 29).1 (TX10 29).2.1 (TX10 29).2.2.1 ∈ tbG := tbG_of (List.mem_of_getElem? (i := 721) (by decide +kernel)) (by decide +kernel)
theorem wk_722 : Cond.fieldLink RX10 84 (TX10 30).1 (TX10 30).2.1 (TX10 30).2.2.1 ∈ tbG := tbG_of (List.mem_of_getElem? (i := 722) (by decide +kernel)) (by decide +kernel)
theorem wk_724 : Cond.fieldLink RX10 87 (TX10 32).1 (TX10 32).2.1 (TX10 32).2.2.1 ∈ tbG := tbG_of (List.mem_of_getElem? (i := 724) (by decide +kernel)) (by decide +kernel)
theorem wk_795 : Cond.arrayClass .long ∈ tbG := tbG_of (List.mem_of_getElem? (i := 795) (by decide +kernel)) (by decide +kernel)
theorem lk_X9_29 : LkS RX9 29 yJ7_fill_53178 cJ7_fill_53178 4 none 2 := ⟨tbG_of (List.mem_of_getElem? (i := 203) (by decide +kernel)) (by decide +kernel), md_J7_fill_53178⟩
def lay_X0 : List LC := [.inl (0, [some 1, some 2, some 3, some 4, some 17, some 18, none]), .inr (.inl (0, 12)), .inr (.inl (0, 12)), .inr (.inl (1, 12)), .inr (.inr (.inr [5, 6, 7, 8, 9, 10, 11, 12, 13, 14, 15, 16])), .inr (.inl (0, 4)), .inr (.inl (0, 4)), .inr (.inl (0, 4)), .inr (.inl (0, 4)), .inr (.inl (0, 4)), .inr (.inl (0, 4)), .inr (.inl (0, 4)), .inr (.inl (0, 4)), .inr (.inl (0, 4)), .inr (.inl (0, 4)), .inr (.inl (0, 4)), .inr (.inl (0, 4)), .inr (.inl (0, 12)), .inr (.inl (0, 12))]
def rX0_init : Room := { frames := 1, cells := 18, slots := 120, locals := 12 }
def mem_X0 : Mm := ((fun _ _ => 0, fun _ _ => 0) : Mm)
set_option maxRecDepth 100000 in
set_option maxHeartbeats 4000000 in
theorem inK_X0 (l : Launch) (G : va_G) (tc : Nat → ClassId) : InK l G tc yX0_init cX0_init 1 rX0_init 19 18 120 (.inr (0, [.null, .null, .null, .null, .null, .null, .int 0])) (fun B es' => es' = esOf tc (fun k => B + k) mem_X0 0 lay_X0) := by
  refine ink_of (by decide) rfl (by decide) (by decide) (fun B => ?_)
  show KP l G tc B 19 true RX0 cX0_init 1 rX0_init (.code yX0_init cX0_init 1 none) 0 [some (.ref B)] [] [.inr (0, [.null, .null, .null, .null, .null, .null, .int 0])] 0 0 (EndK cX0_init B (fun B es' => es' = esOf tc (fun k => B + k) mem_X0 0 lay_X0) 18 120)
  refine KP.aload_n dX0_init_0 rfl rfl ?_
  refine KP.obj dX0_init_1 wk_78 wk_65 wk_66 (by decide) (by decide) ?_
  refine KP.aload_n dX0_init_4 rfl rfl ?_
  refine KP.bipush (v := 12) dX0_init_5 (by decide) ?_
  refine KP.newa (ty := .int) (t := 0) (n := 12) (a0 := (12, .inl (fun _ => 0))) (q := B + 1) dX0_init_7 rfl rfl (fun _ h => by cases h) wk_125 (fun _ => rfl) (by decide) (by decide) (by decide) rfl (Nat.le_of_ble_eq_true rfl) (by decide) (by decide) ?_
  refine KP.putF (x := 0) (j := 0) (ty := .array .int) dX0_init_9 rfl rfl rfl rfl in_X0 tyX0_ok nmX0 (by decide) wk_81 rfl rfl (by decide +kernel) rfl rfl (Nat.le_of_ble_eq_true rfl) ?_
  refine KP.aload_n dX0_init_12 rfl rfl ?_
  refine KP.bipush (v := 12) dX0_init_13 (by decide) ?_
  refine KP.newa (ty := .int) (t := 0) (n := 12) (a0 := (12, .inl (fun _ => 0))) (q := B + 2) dX0_init_15 rfl rfl (fun _ h => by cases h) wk_125 (fun _ => rfl) (by decide) (by decide) (by decide) rfl (Nat.le_of_ble_eq_true rfl) (by decide) (by decide) ?_
  refine KP.putF (x := 0) (j := 1) (ty := .array .int) dX0_init_17 rfl rfl rfl rfl in_X0 tyX0_ok nmX0 (by decide) wk_85 rfl rfl (by decide +kernel) rfl rfl (Nat.le_of_ble_eq_true rfl) ?_
  refine KP.aload_n dX0_init_20 rfl rfl ?_
  refine KP.bipush (v := 12) dX0_init_21 (by decide) ?_
  refine KP.newa (ty := .boolean) (t := 1) (n := 12) (a0 := (12, .inl (fun _ => 0))) (q := B + 3) dX0_init_23 rfl rfl (fun _ h => by cases h) wk_126 (fun _ => rfl) (by decide) (by decide) (by decide) rfl (Nat.le_of_ble_eq_true rfl) (by decide) (by decide) ?_
  refine KP.putF (x := 0) (j := 2) (ty := .array .boolean) dX0_init_25 rfl rfl rfl rfl in_X0 tyX0_ok nmX0 (by decide) wk_89 rfl rfl (by decide +kernel) rfl rfl (Nat.le_of_ble_eq_true rfl) ?_
  refine KP.aload_n dX0_init_28 rfl rfl ?_
  refine KP.bipush (v := 12) dX0_init_29 (by decide) ?_
  refine KP.iconst (v := 4) dX0_init_31 (by decide) ?_
  refine KP.mna (n := 12) (kk := 4) (q := B + 4) (rs := [5, 6, 7, 8, 9, 10, 11, 12, 13, 14, 15, 16]) dX0_init_32 wk_79 wk_125 (by decide) (by decide) (by decide) (by decide) (by decide) (by decide) rfl rfl (Nat.le_of_ble_eq_true rfl) (by decide) (by decide) ?_
  refine KP.putF (x := 0) (j := 3) (ty := .array (.array .int)) dX0_init_36 rfl rfl rfl rfl in_X0 tyX0_ok nmX0 (by decide) wk_93 rfl rfl (by decide +kernel) rfl rfl (Nat.le_of_ble_eq_true rfl) ?_
  refine KP.aload_n dX0_init_39 rfl rfl ?_
  refine KP.bipush (v := 12) dX0_init_40 (by decide) ?_
  refine KP.newa (ty := .int) (t := 0) (n := 12) (a0 := (12, .inl (fun _ => 0))) (q := B + 17) dX0_init_42 rfl rfl (fun _ h => by cases h) wk_125 (fun _ => rfl) (by decide) (by decide) (by decide) rfl (Nat.le_of_ble_eq_true rfl) (by decide) (by decide) ?_
  refine KP.putF (x := 0) (j := 4) (ty := .array .int) dX0_init_44 rfl rfl rfl rfl in_X0 tyX0_ok nmX0 (by decide) wk_98 rfl rfl (by decide +kernel) rfl rfl (Nat.le_of_ble_eq_true rfl) ?_
  refine KP.aload_n dX0_init_47 rfl rfl ?_
  refine KP.bipush (v := 12) dX0_init_48 (by decide) ?_
  refine KP.newa (ty := .int) (t := 0) (n := 12) (a0 := (12, .inl (fun _ => 0))) (q := B + 18) dX0_init_50 rfl rfl (fun _ h => by cases h) wk_125 (fun _ => rfl) (by decide) (by decide) (by decide) rfl (Nat.le_of_ble_eq_true rfl) (by decide) (by decide) ?_
  refine KP.putF (x := 0) (j := 5) (ty := .array .int) dX0_init_52 rfl rfl rfl rfl in_X0 tyX0_ok nmX0 (by decide) wk_101 rfl rfl (by decide +kernel) rfl rfl (Nat.le_of_ble_eq_true rfl) ?_
  exact KP.done ⟨dX0_init_55, rfl, rfl, rfl, rfl⟩
def lay_X3 : List LC := [.inl (3, [some 1, some 2, some 3, some 4, some 5, none]), .inr (.inl (0, 50)), .inr (.inl (0, 50)), .inr (.inl (0, 50)), .inr (.inl (0, 50)), .inr (.inl (0, 50))]
def rX3_init : Room := { frames := 1, cells := 5, slots := 250, locals := 12 }
def mem_X3 : Mm := ((fun _ _ => 0, fun _ _ => 0) : Mm)
set_option maxRecDepth 100000 in
set_option maxHeartbeats 4000000 in
theorem inK_X3 (l : Launch) (G : va_G) (tc : Nat → ClassId) : InK l G tc yX3_init cX3_init 1 rX3_init 6 5 250 (.inr (3, [.null, .null, .null, .null, .null, .int 0])) (fun B es' => es' = esOf tc (fun k => B + k) mem_X3 0 lay_X3) := by
  refine ink_of (by decide) rfl (by decide) (by decide) (fun B => ?_)
  show KP l G tc B 6 true RX3 cX3_init 1 rX3_init (.code yX3_init cX3_init 1 none) 0 [some (.ref B)] [] [.inr (3, [.null, .null, .null, .null, .null, .int 0])] 0 0 (EndK cX3_init B (fun B es' => es' = esOf tc (fun k => B + k) mem_X3 0 lay_X3) 5 250)
  refine KP.aload_n dX3_init_0 rfl rfl ?_
  refine KP.obj dX3_init_1 wk_132 wk_65 wk_66 (by decide) (by decide) ?_
  refine KP.aload_n dX3_init_4 rfl rfl ?_
  refine KP.bipush (v := 50) dX3_init_5 (by decide) ?_
  refine KP.newa (ty := .int) (t := 0) (n := 50) (a0 := (50, .inl (fun _ => 0))) (q := B + 1) dX3_init_7 rfl rfl (fun _ h => by cases h) wk_125 (fun _ => rfl) (by decide) (by decide) (by decide) rfl (Nat.le_of_ble_eq_true rfl) (by decide) (by decide) ?_
  refine KP.putF (x := 0) (j := 0) (ty := .array .int) dX3_init_9 rfl rfl rfl rfl in_X3 tyX3_ok nmX3 (by decide) wk_133 rfl rfl (by decide +kernel) rfl rfl (Nat.le_of_ble_eq_true rfl) ?_
  refine KP.aload_n dX3_init_12 rfl rfl ?_
  refine KP.bipush (v := 50) dX3_init_13 (by decide) ?_
  refine KP.newa (ty := .int) (t := 0) (n := 50) (a0 := (50, .inl (fun _ => 0))) (q := B + 2) dX3_init_15 rfl rfl (fun _ h => by cases h) wk_125 (fun _ => rfl) (by decide) (by decide) (by decide) rfl (Nat.le_of_ble_eq_true rfl) (by decide) (by decide) ?_
  refine KP.putF (x := 0) (j := 1) (ty := .array .int) dX3_init_17 rfl rfl rfl rfl in_X3 tyX3_ok nmX3 (by decide) wk_135 rfl rfl (by decide +kernel) rfl rfl (Nat.le_of_ble_eq_true rfl) ?_
  refine KP.aload_n dX3_init_20 rfl rfl ?_
  refine KP.bipush (v := 50) dX3_init_21 (by decide) ?_
  refine KP.newa (ty := .int) (t := 0) (n := 50) (a0 := (50, .inl (fun _ => 0))) (q := B + 3) dX3_init_23 rfl rfl (fun _ h => by cases h) wk_125 (fun _ => rfl) (by decide) (by decide) (by decide) rfl (Nat.le_of_ble_eq_true rfl) (by decide) (by decide) ?_
  refine KP.putF (x := 0) (j := 2) (ty := .array .int) dX3_init_25 rfl rfl rfl rfl in_X3 tyX3_ok nmX3 (by decide) wk_137 rfl rfl (by decide +kernel) rfl rfl (Nat.le_of_ble_eq_true rfl) ?_
  refine KP.aload_n dX3_init_28 rfl rfl ?_
  refine KP.bipush (v := 50) dX3_init_29 (by decide) ?_
  refine KP.newa (ty := .int) (t := 0) (n := 50) (a0 := (50, .inl (fun _ => 0))) (q := B + 4) dX3_init_31 rfl rfl (fun _ h => by cases h) wk_125 (fun _ => rfl) (by decide) (by decide) (by decide) rfl (Nat.le_of_ble_eq_true rfl) (by decide) (by decide) ?_
  refine KP.putF (x := 0) (j := 3) (ty := .array .int) dX3_init_33 rfl rfl rfl rfl in_X3 tyX3_ok nmX3 (by decide) wk_139 rfl rfl (by decide +kernel) rfl rfl (Nat.le_of_ble_eq_true rfl) ?_
  refine KP.aload_n dX3_init_36 rfl rfl ?_
  refine KP.bipush (v := 50) dX3_init_37 (by decide) ?_
  refine KP.newa (ty := .int) (t := 0) (n := 50) (a0 := (50, .inl (fun _ => 0))) (q := B + 5) dX3_init_39 rfl rfl (fun _ h => by cases h) wk_125 (fun _ => rfl) (by decide) (by decide) (by decide) rfl (Nat.le_of_ble_eq_true rfl) (by decide) (by decide) ?_
  refine KP.putF (x := 0) (j := 4) (ty := .array .int) dX3_init_41 rfl rfl rfl rfl in_X3 tyX3_ok nmX3 (by decide) wk_141 rfl rfl (by decide +kernel) rfl rfl (Nat.le_of_ble_eq_true rfl) ?_
  exact KP.done ⟨dX3_init_44, rfl, rfl, rfl, rfl⟩
def lay_X2 : List LC := [.inl (2, [some 1, some 20, some 26, some 27, some 28, none]), .inl (0, [some 2, some 3, some 4, some 5, some 18, some 19, none]), .inr (.inl (0, 12)), .inr (.inl (0, 12)), .inr (.inl (1, 12)), .inr (.inr (.inr [6, 7, 8, 9, 10, 11, 12, 13, 14, 15, 16, 17])), .inr (.inl (0, 4)), .inr (.inl (0, 4)), .inr (.inl (0, 4)), .inr (.inl (0, 4)), .inr (.inl (0, 4)), .inr (.inl (0, 4)), .inr (.inl (0, 4)), .inr (.inl (0, 4)), .inr (.inl (0, 4)), .inr (.inl (0, 4)), .inr (.inl (0, 4)), .inr (.inl (0, 4)), .inr (.inl (0, 12)), .inr (.inl (0, 12)), .inl (3, [some 21, some 22, some 23, some 24, some 25, none]), .inr (.inl (0, 50)), .inr (.inl (0, 50)), .inr (.inl (0, 50)), .inr (.inl (0, 50)), .inr (.inl (0, 50)), .inr (.inl (0, 62)), .inr (.inl (0, 62)), .inr (.inl (0, 50))]
def rX2_init : Room := { frames := 2, cells := 28, slots := 557, locals := 32 }
def mem_X2 : Mm := ((fun _ _ => 0, fun _ _ => 0) : Mm)
set_option maxRecDepth 100000 in
set_option maxHeartbeats 4000000 in
theorem inK_X2 (l : Launch) (G : va_G) (tc : Nat → ClassId) : InK l G tc yX2_init cX2_init 1 rX2_init 29 28 557 (.inr (2, [.null, .null, .null, .null, .null, .int 0])) (fun B es' => es' = esOf tc (fun k => B + k) mem_X2 0 lay_X2) := by
  refine ink_of (by decide) rfl (by decide) (by decide) (fun B => ?_)
  show KP l G tc B 29 true RX2 cX2_init 1 rX2_init (.code yX2_init cX2_init 1 none) 0 [some (.ref B)] [] [.inr (2, [.null, .null, .null, .null, .null, .int 0])] 0 0 (EndK cX2_init B (fun B es' => es' = esOf tc (fun k => B + k) mem_X2 0 lay_X2) 28 557)
  refine KP.aload_n dX2_init_0 rfl rfl ?_
  refine KP.obj dX2_init_1 wk_72 wk_65 wk_66 (by decide) (by decide) ?_
  refine KP.aload_n dX2_init_4 rfl rfl ?_
  refine KP.new (ci := 0) (fs := [.null, .null, .null, .null, .null, .null, .int 0]) (q := B + 1) dX2_init_5 rfl in_X0 tyX0_ok wk_73 wk_74 wk_48 (fun j hj => match j, hj with | 0, _ => rfl | 1, _ => rfl | 2, _ => rfl | 3, _ => rfl | 4, _ => rfl | 5, _ => rfl | 6, _ => rfl | j + 7, hz => absurd hz (by omega)) rfl (Nat.le_of_ble_eq_true rfl) (by decide) (by decide) ?_
  refine KP.dup dX2_init_8 rfl ?_
  refine KP.initN _ dX2_init_9 rfl rfl (inK_X0 l G tc) (List.mem_of_getElem? (i := 1) (by decide +kernel) : (RX2, 11, yX0_init, "ThinkingForm") ∈ nestM) wk_77 wk_76 wk_48 rfl ⟨by decide, by decide, by decide +kernel⟩ (fun es' he => by rw [he, esOf_len]; rfl) rfl (Nat.le_of_ble_eq_true rfl) (by decide) (by decide) (Nat.le_of_ble_eq_true rfl) (fun es' he => ?_)
  have hsh : ∀ j, j < 0 + lay_X0.length → mem_X2.1 (1 + j) = mem_X0.1 j ∧ mem_X2.2 (1 + j) = mem_X0.2 j := fun j hj => by
    have hj : j < 19 := hj
    exact ⟨rfl, rfl⟩
  rw [esOf_shift (B := B) (a := 1) (M' := mem_X2) _ 0 hsh] at he
  subst he
  clear hsh
  refine KP.putF (x := 0) (j := 0) (ty := .object "ThinkingForm$Fields") dX2_init_12 rfl rfl rfl rfl in_X2 tyX2_ok nmX2 (by decide) wk_159 rfl rfl (by decide +kernel) rfl rfl (Nat.le_of_ble_eq_true rfl) ?_
  refine KP.aload_n dX2_init_15 rfl rfl ?_
  refine KP.new (ci := 3) (fs := [.null, .null, .null, .null, .null, .int 0]) (q := B + 20) dX2_init_16 rfl in_X3 tyX3_ok wk_127 wk_128 wk_49 (fun j hj => match j, hj with | 0, _ => rfl | 1, _ => rfl | 2, _ => rfl | 3, _ => rfl | 4, _ => rfl | 5, _ => rfl | j + 6, hz => absurd hz (by omega)) rfl (Nat.le_of_ble_eq_true rfl) (by decide) (by decide) ?_
  refine KP.dup dX2_init_19 rfl ?_
  refine KP.initN _ dX2_init_20 rfl rfl (inK_X3 l G tc) (List.mem_of_getElem? (i := 2) (by decide +kernel) : (RX2, 20, yX3_init, "ThinkingForm") ∈ nestM) wk_131 wk_130 wk_49 rfl ⟨by decide, by decide, by decide +kernel⟩ (fun es' he => by rw [he, esOf_len]; rfl) rfl (Nat.le_of_ble_eq_true rfl) (by decide) (by decide) (Nat.le_of_ble_eq_true rfl) (fun es' he => ?_)
  have hsh : ∀ j, j < 0 + lay_X3.length → mem_X2.1 (20 + j) = mem_X3.1 j ∧ mem_X2.2 (20 + j) = mem_X3.2 j := fun j hj => by
    have hj : j < 6 := hj
    exact ⟨rfl, rfl⟩
  rw [esOf_shift (B := B) (a := 20) (M' := mem_X2) _ 0 hsh] at he
  subst he
  clear hsh
  refine KP.putF (x := 0) (j := 1) (ty := .object "ThinkingForm$Parts") dX2_init_23 rfl rfl rfl rfl in_X2 tyX2_ok nmX2 (by decide) wk_163 rfl rfl (by decide +kernel) rfl rfl (Nat.le_of_ble_eq_true rfl) ?_
  refine KP.aload_n dX2_init_26 rfl rfl ?_
  refine KP.bipush (v := 62) dX2_init_27 (by decide) ?_
  refine KP.newa (ty := .int) (t := 0) (n := 62) (a0 := (62, .inl (fun _ => 0))) (q := B + 26) dX2_init_29 rfl rfl (fun _ h => by cases h) wk_125 (fun _ => rfl) (by decide) (by decide) (by decide) rfl (Nat.le_of_ble_eq_true rfl) (by decide) (by decide) ?_
  refine KP.putF (x := 0) (j := 2) (ty := .array .int) dX2_init_31 rfl rfl rfl rfl in_X2 tyX2_ok nmX2 (by decide) wk_166 rfl rfl (by decide +kernel) rfl rfl (Nat.le_of_ble_eq_true rfl) ?_
  refine KP.aload_n dX2_init_34 rfl rfl ?_
  refine KP.bipush (v := 62) dX2_init_35 (by decide) ?_
  refine KP.newa (ty := .int) (t := 0) (n := 62) (a0 := (62, .inl (fun _ => 0))) (q := B + 27) dX2_init_37 rfl rfl (fun _ h => by cases h) wk_125 (fun _ => rfl) (by decide) (by decide) (by decide) rfl (Nat.le_of_ble_eq_true rfl) (by decide) (by decide) ?_
  refine KP.putF (x := 0) (j := 3) (ty := .array .int) dX2_init_39 rfl rfl rfl rfl in_X2 tyX2_ok nmX2 (by decide) wk_168 rfl rfl (by decide +kernel) rfl rfl (Nat.le_of_ble_eq_true rfl) ?_
  refine KP.aload_n dX2_init_42 rfl rfl ?_
  refine KP.bipush (v := 50) dX2_init_43 (by decide) ?_
  refine KP.newa (ty := .int) (t := 0) (n := 50) (a0 := (50, .inl (fun _ => 0))) (q := B + 28) dX2_init_45 rfl rfl (fun _ h => by cases h) wk_125 (fun _ => rfl) (by decide) (by decide) (by decide) rfl (Nat.le_of_ble_eq_true rfl) (by decide) (by decide) ?_
  refine KP.putF (x := 0) (j := 4) (ty := .array .int) dX2_init_47 rfl rfl rfl rfl in_X2 tyX2_ok nmX2 (by decide) wk_170 rfl rfl (by decide +kernel) rfl rfl (Nat.le_of_ble_eq_true rfl) ?_
  exact KP.done ⟨dX2_init_50, rfl, rfl, rfl, rfl⟩
def lay_X4 : List LC := [.inl (4, [some 1, none]), .inr (.inl (0, 12))]
def rX4_init : Room := { frames := 1, cells := 1, slots := 12, locals := 12 }
def mem_X4 : Mm := ((fun _ _ => 0, fun _ _ => 0) : Mm)
set_option maxRecDepth 100000 in
set_option maxHeartbeats 4000000 in
theorem inK_X4 (l : Launch) (G : va_G) (tc : Nat → ClassId) : InK l G tc yX4_init cX4_init 1 rX4_init 2 1 12 (.inr (4, [.null, .int 0])) (fun B es' => es' = esOf tc (fun k => B + k) mem_X4 0 lay_X4) := by
  refine ink_of (by decide) rfl (by decide) (by decide) (fun B => ?_)
  show KP l G tc B 2 true RX4 cX4_init 1 rX4_init (.code yX4_init cX4_init 1 none) 0 [some (.ref B)] [] [.inr (4, [.null, .int 0])] 0 0 (EndK cX4_init B (fun B es' => es' = esOf tc (fun k => B + k) mem_X4 0 lay_X4) 1 12)
  refine KP.aload_n dX4_init_0 rfl rfl ?_
  refine KP.obj dX4_init_1 wk_191 wk_65 wk_66 (by decide) (by decide) ?_
  refine KP.aload_n dX4_init_4 rfl rfl ?_
  refine KP.bipush (v := 12) dX4_init_5 (by decide) ?_
  refine KP.newa (ty := .int) (t := 0) (n := 12) (a0 := (12, .inl (fun _ => 0))) (q := B + 1) dX4_init_7 rfl rfl (fun _ h => by cases h) wk_125 (fun _ => rfl) (by decide) (by decide) (by decide) rfl (Nat.le_of_ble_eq_true rfl) (by decide) (by decide) ?_
  refine KP.putF (x := 0) (j := 0) (ty := .array .int) dX4_init_9 rfl rfl rfl rfl in_X4 tyX4_ok nmX4 (by decide) wk_192 rfl rfl (by decide +kernel) rfl rfl (Nat.le_of_ble_eq_true rfl) ?_
  exact KP.done ⟨dX4_init_12, rfl, rfl, rfl, rfl⟩
def lay_X6 : List LC := [.inl (6, [some 1, some 2, some 3]), .inr (.inl (0, 50)), .inr (.inl (1, 12)), .inr (.inl (0, 12))]
def rX6_init : Room := { frames := 1, cells := 3, slots := 74, locals := 12 }
def mem_X6 : Mm := ((fun _ _ => 0, fun _ _ => 0) : Mm)
set_option maxRecDepth 100000 in
set_option maxHeartbeats 4000000 in
theorem inK_X6 (l : Launch) (G : va_G) (tc : Nat → ClassId) : InK l G tc yX6_init cX6_init 1 rX6_init 4 3 74 (.inr (6, [.null, .null, .null])) (fun B es' => es' = esOf tc (fun k => B + k) mem_X6 0 lay_X6) := by
  refine ink_of (by decide) rfl (by decide) (by decide) (fun B => ?_)
  show KP l G tc B 4 true RX6 cX6_init 1 rX6_init (.code yX6_init cX6_init 1 none) 0 [some (.ref B)] [] [.inr (6, [.null, .null, .null])] 0 0 (EndK cX6_init B (fun B es' => es' = esOf tc (fun k => B + k) mem_X6 0 lay_X6) 3 74)
  refine KP.aload_n dX6_init_0 rfl rfl ?_
  refine KP.obj dX6_init_1 wk_211 wk_65 wk_66 (by decide) (by decide) ?_
  refine KP.aload_n dX6_init_4 rfl rfl ?_
  refine KP.bipush (v := 50) dX6_init_5 (by decide) ?_
  refine KP.newa (ty := .int) (t := 0) (n := 50) (a0 := (50, .inl (fun _ => 0))) (q := B + 1) dX6_init_7 rfl rfl (fun _ h => by cases h) wk_125 (fun _ => rfl) (by decide) (by decide) (by decide) rfl (Nat.le_of_ble_eq_true rfl) (by decide) (by decide) ?_
  refine KP.putF (x := 0) (j := 0) (ty := .array .int) dX6_init_9 rfl rfl rfl rfl in_X6 tyX6_ok nmX6 (by decide) wk_212 rfl rfl (by decide +kernel) rfl rfl (Nat.le_of_ble_eq_true rfl) ?_
  refine KP.aload_n dX6_init_12 rfl rfl ?_
  refine KP.bipush (v := 12) dX6_init_13 (by decide) ?_
  refine KP.newa (ty := .boolean) (t := 1) (n := 12) (a0 := (12, .inl (fun _ => 0))) (q := B + 2) dX6_init_15 rfl rfl (fun _ h => by cases h) wk_126 (fun _ => rfl) (by decide) (by decide) (by decide) rfl (Nat.le_of_ble_eq_true rfl) (by decide) (by decide) ?_
  refine KP.putF (x := 0) (j := 1) (ty := .array .boolean) dX6_init_17 rfl rfl rfl rfl in_X6 tyX6_ok nmX6 (by decide) wk_214 rfl rfl (by decide +kernel) rfl rfl (Nat.le_of_ble_eq_true rfl) ?_
  refine KP.aload_n dX6_init_20 rfl rfl ?_
  refine KP.bipush (v := 12) dX6_init_21 (by decide) ?_
  refine KP.newa (ty := .int) (t := 0) (n := 12) (a0 := (12, .inl (fun _ => 0))) (q := B + 3) dX6_init_23 rfl rfl (fun _ h => by cases h) wk_125 (fun _ => rfl) (by decide) (by decide) (by decide) rfl (Nat.le_of_ble_eq_true rfl) (by decide) (by decide) ?_
  refine KP.putF (x := 0) (j := 2) (ty := .array .int) dX6_init_25 rfl rfl rfl rfl in_X6 tyX6_ok nmX6 (by decide) wk_216 rfl rfl (by decide +kernel) rfl rfl (Nat.le_of_ble_eq_true rfl) ?_
  exact KP.done ⟨dX6_init_28, rfl, rfl, rfl, rfl⟩
def lay_X1 : List LC := [.inl (1, [some 1, none]), .inr (.inl (0, 12))]
def rX1_init : Room := { frames := 1, cells := 1, slots := 12, locals := 12 }
def mem_X1 : Mm := ((fun _ _ => 0, fun _ _ => 0) : Mm)
set_option maxRecDepth 100000 in
set_option maxHeartbeats 4000000 in
theorem inK_X1 (l : Launch) (G : va_G) (tc : Nat → ClassId) : InK l G tc yX1_init cX1_init 1 rX1_init 2 1 12 (.inr (1, [.null, .int 0])) (fun B es' => es' = esOf tc (fun k => B + k) mem_X1 0 lay_X1) := by
  refine ink_of (by decide) rfl (by decide) (by decide) (fun B => ?_)
  show KP l G tc B 2 true RX1 cX1_init 1 rX1_init (.code yX1_init cX1_init 1 none) 0 [some (.ref B)] [] [.inr (1, [.null, .int 0])] 0 0 (EndK cX1_init B (fun B es' => es' = esOf tc (fun k => B + k) mem_X1 0 lay_X1) 1 12)
  refine KP.aload_n dX1_init_0 rfl rfl ?_
  refine KP.obj dX1_init_1 wk_230 wk_65 wk_66 (by decide) (by decide) ?_
  refine KP.aload_n dX1_init_4 rfl rfl ?_
  refine KP.bipush (v := 12) dX1_init_5 (by decide) ?_
  refine KP.newa (ty := .int) (t := 0) (n := 12) (a0 := (12, .inl (fun _ => 0))) (q := B + 1) dX1_init_7 rfl rfl (fun _ h => by cases h) wk_125 (fun _ => rfl) (by decide) (by decide) (by decide) rfl (Nat.le_of_ble_eq_true rfl) (by decide) (by decide) ?_
  refine KP.putF (x := 0) (j := 0) (ty := .array .int) dX1_init_9 rfl rfl rfl rfl in_X1 tyX1_ok nmX1 (by decide) wk_231 rfl rfl (by decide +kernel) rfl rfl (Nat.le_of_ble_eq_true rfl) ?_
  exact KP.done ⟨dX1_init_12, rfl, rfl, rfl, rfl⟩
def lay_X5 : List LC := [.inl (5, [some 1, some 2, some 3, some 4, some 11, none]), .inr (.inl (0, 6)), .inr (.inl (0, 6)), .inr (.inl (1, 6)), .inr (.inr (.inr [5, 6, 7, 8, 9, 10])), .inr (.inl (0, 12)), .inr (.inl (0, 12)), .inr (.inl (0, 12)), .inr (.inl (0, 12)), .inr (.inl (0, 12)), .inr (.inl (0, 12)), .inr (.inr (.inr [12, 13, 14, 15, 16, 17])), .inr (.inl (0, 12)), .inr (.inl (0, 12)), .inr (.inl (0, 12)), .inr (.inl (0, 12)), .inr (.inl (0, 12)), .inr (.inl (0, 12))]
def rX5_init : Room := { frames := 1, cells := 17, slots := 174, locals := 12 }
def mem_X5 : Mm := ((fun _ _ => 0, fun _ _ => 0) : Mm)
set_option maxRecDepth 100000 in
set_option maxHeartbeats 4000000 in
theorem inK_X5 (l : Launch) (G : va_G) (tc : Nat → ClassId) : InK l G tc yX5_init cX5_init 1 rX5_init 18 17 174 (.inr (5, [.null, .null, .null, .null, .null, .int 0])) (fun B es' => es' = esOf tc (fun k => B + k) mem_X5 0 lay_X5) := by
  refine ink_of (by decide) rfl (by decide) (by decide) (fun B => ?_)
  show KP l G tc B 18 true RX5 cX5_init 1 rX5_init (.code yX5_init cX5_init 1 none) 0 [some (.ref B)] [] [.inr (5, [.null, .null, .null, .null, .null, .int 0])] 0 0 (EndK cX5_init B (fun B es' => es' = esOf tc (fun k => B + k) mem_X5 0 lay_X5) 17 174)
  refine KP.aload_n dX5_init_0 rfl rfl ?_
  refine KP.obj dX5_init_1 wk_245 wk_65 wk_66 (by decide) (by decide) ?_
  refine KP.aload_n dX5_init_4 rfl rfl ?_
  refine KP.bipush (v := 6) dX5_init_5 (by decide) ?_
  refine KP.newa (ty := .int) (t := 0) (n := 6) (a0 := (6, .inl (fun _ => 0))) (q := B + 1) dX5_init_7 rfl rfl (fun _ h => by cases h) wk_125 (fun _ => rfl) (by decide) (by decide) (by decide) rfl (Nat.le_of_ble_eq_true rfl) (by decide) (by decide) ?_
  refine KP.putF (x := 0) (j := 0) (ty := .array .int) dX5_init_9 rfl rfl rfl rfl in_X5 tyX5_ok nmX5 (by decide) wk_247 rfl rfl (by decide +kernel) rfl rfl (Nat.le_of_ble_eq_true rfl) ?_
  refine KP.aload_n dX5_init_12 rfl rfl ?_
  refine KP.bipush (v := 6) dX5_init_13 (by decide) ?_
  refine KP.newa (ty := .int) (t := 0) (n := 6) (a0 := (6, .inl (fun _ => 0))) (q := B + 2) dX5_init_15 rfl rfl (fun _ h => by cases h) wk_125 (fun _ => rfl) (by decide) (by decide) (by decide) rfl (Nat.le_of_ble_eq_true rfl) (by decide) (by decide) ?_
  refine KP.putF (x := 0) (j := 1) (ty := .array .int) dX5_init_17 rfl rfl rfl rfl in_X5 tyX5_ok nmX5 (by decide) wk_249 rfl rfl (by decide +kernel) rfl rfl (Nat.le_of_ble_eq_true rfl) ?_
  refine KP.aload_n dX5_init_20 rfl rfl ?_
  refine KP.bipush (v := 6) dX5_init_21 (by decide) ?_
  refine KP.newa (ty := .boolean) (t := 1) (n := 6) (a0 := (6, .inl (fun _ => 0))) (q := B + 3) dX5_init_23 rfl rfl (fun _ h => by cases h) wk_126 (fun _ => rfl) (by decide) (by decide) (by decide) rfl (Nat.le_of_ble_eq_true rfl) (by decide) (by decide) ?_
  refine KP.putF (x := 0) (j := 2) (ty := .array .boolean) dX5_init_25 rfl rfl rfl rfl in_X5 tyX5_ok nmX5 (by decide) wk_251 rfl rfl (by decide +kernel) rfl rfl (Nat.le_of_ble_eq_true rfl) ?_
  refine KP.aload_n dX5_init_28 rfl rfl ?_
  refine KP.bipush (v := 6) dX5_init_29 (by decide) ?_
  refine KP.bipush (v := 12) dX5_init_31 (by decide) ?_
  refine KP.mna (n := 6) (kk := 12) (q := B + 4) (rs := [5, 6, 7, 8, 9, 10]) dX5_init_33 wk_246 wk_125 (by decide) (by decide) (by decide) (by decide) (by decide) (by decide) rfl rfl (Nat.le_of_ble_eq_true rfl) (by decide) (by decide) ?_
  refine KP.putF (x := 0) (j := 3) (ty := .array (.array .int)) dX5_init_37 rfl rfl rfl rfl in_X5 tyX5_ok nmX5 (by decide) wk_253 rfl rfl (by decide +kernel) rfl rfl (Nat.le_of_ble_eq_true rfl) ?_
  refine KP.aload_n dX5_init_40 rfl rfl ?_
  refine KP.bipush (v := 6) dX5_init_41 (by decide) ?_
  refine KP.bipush (v := 12) dX5_init_43 (by decide) ?_
  refine KP.mna (n := 6) (kk := 12) (q := B + 11) (rs := [12, 13, 14, 15, 16, 17]) dX5_init_45 wk_246 wk_125 (by decide) (by decide) (by decide) (by decide) (by decide) (by decide) rfl rfl (Nat.le_of_ble_eq_true rfl) (by decide) (by decide) ?_
  refine KP.putF (x := 0) (j := 4) (ty := .array (.array .int)) dX5_init_49 rfl rfl rfl rfl in_X5 tyX5_ok nmX5 (by decide) wk_255 rfl rfl (by decide +kernel) rfl rfl (Nat.le_of_ble_eq_true rfl) ?_
  exact KP.done ⟨dX5_init_52, rfl, rfl, rfl, rfl⟩
def lay_X8 : List LC := [.inl (8, [some 1, some 2, some 3, none, none]), .inr (.inl (0, 12)), .inr (.inl (0, 12)), .inl (6, [some 4, some 5, some 6]), .inr (.inl (0, 50)), .inr (.inl (1, 12)), .inr (.inl (0, 12))]
def rX8_init : Room := { frames := 2, cells := 6, slots := 101, locals := 32 }
def mem_X8 : Mm := ((fun k => if k = 1 then (fun j => if j < 12 then (-2000000000) else 0) else fun _ => 0, fun _ _ => 0) : Mm)
set_option maxRecDepth 100000 in
set_option maxHeartbeats 4000000 in
theorem inK_X8 (l : Launch) (G : va_G) (tc : Nat → ClassId) : InK l G tc yX8_init cX8_init 1 rX8_init 7 6 101 (.inr (8, [.null, .null, .null, .int 0, .int 0])) (fun B es' => es' = esOf tc (fun k => B + k) mem_X8 0 lay_X8) := by
  refine ink_of (by decide) rfl (by decide) (by decide) (fun B => ?_)
  show KP l G tc B 7 true RX8 cX8_init 1 rX8_init (.code yX8_init cX8_init 1 none) 0 [some (.ref B)] [] [.inr (8, [.null, .null, .null, .int 0, .int 0])] 0 0 (EndK cX8_init B (fun B es' => es' = esOf tc (fun k => B + k) mem_X8 0 lay_X8) 6 101)
  refine KP.aload_n dX8_init_0 rfl rfl ?_
  refine KP.obj dX8_init_1 wk_277 wk_65 wk_66 (by decide) (by decide) ?_
  refine KP.aload_n dX8_init_4 rfl rfl ?_
  refine KP.bipush (v := 12) dX8_init_5 (by decide) ?_
  refine KP.newa (ty := .int) (t := 0) (n := 12) (a0 := (12, .inl (fun _ => 0))) (q := B + 1) dX8_init_7 rfl rfl (fun _ h => by cases h) wk_125 (fun _ => rfl) (by decide) (by decide) (by decide) rfl (Nat.le_of_ble_eq_true rfl) (by decide) (by decide) ?_
  refine KP.putF (x := 0) (j := 0) (ty := .array .int) dX8_init_9 rfl rfl rfl rfl in_X8 tyX8_ok nmX8 (by decide) wk_282 rfl rfl (by decide +kernel) rfl rfl (Nat.le_of_ble_eq_true rfl) ?_
  refine KP.aload_n dX8_init_12 rfl rfl ?_
  refine KP.bipush (v := 12) dX8_init_13 (by decide) ?_
  refine KP.newa (ty := .int) (t := 0) (n := 12) (a0 := (12, .inl (fun _ => 0))) (q := B + 2) dX8_init_15 rfl rfl (fun _ h => by cases h) wk_125 (fun _ => rfl) (by decide) (by decide) (by decide) rfl (Nat.le_of_ble_eq_true rfl) (by decide) (by decide) ?_
  refine KP.putF (x := 0) (j := 1) (ty := .array .int) dX8_init_17 rfl rfl rfl rfl in_X8 tyX8_ok nmX8 (by decide) wk_284 rfl rfl (by decide +kernel) rfl rfl (Nat.le_of_ble_eq_true rfl) ?_
  refine KP.aload_n dX8_init_20 rfl rfl ?_
  refine KP.new (ci := 6) (fs := [.null, .null, .null]) (q := B + 3) dX8_init_21 rfl in_X6 tyX6_ok wk_278 wk_207 wk_52 (fun j hj => match j, hj with | 0, _ => rfl | 1, _ => rfl | 2, _ => rfl | j + 3, hz => absurd hz (by omega)) rfl (Nat.le_of_ble_eq_true rfl) (by decide) (by decide) ?_
  refine KP.dup dX8_init_24 rfl ?_
  refine KP.initN _ dX8_init_25 rfl rfl (inK_X6 l G tc) (List.mem_of_getElem? (i := 7) (by decide +kernel) : (RX8, 20, yX6_init, "ThinkingForm") ∈ nestM) wk_210 wk_209 wk_52 rfl ⟨by decide, by decide, by decide +kernel⟩ (fun es' he => by rw [he, esOf_len]; rfl) rfl (Nat.le_of_ble_eq_true rfl) (by decide) (by decide) (Nat.le_of_ble_eq_true rfl) (fun es' he => ?_)
  have hsh : ∀ j, j < 0 + lay_X6.length → mem_X8.1 (3 + j) = mem_X6.1 j ∧ mem_X8.2 (3 + j) = mem_X6.2 j := fun j hj => by
    have hj : j < 4 := hj
    refine ⟨?_, rfl⟩
    exact if_neg (show ¬ (3 + j = 1) by omega)
  rw [esOf_shift (B := B) (a := 3) (M' := mem_X8) _ 0 hsh] at he
  subst he
  clear hsh
  refine KP.putF (x := 0) (j := 2) (ty := .object "ThinkingForm$Sight") dX8_init_28 rfl rfl rfl rfl in_X8 tyX8_ok nmX8 (by decide) wk_285 rfl rfl (by decide +kernel) rfl rfl (Nat.le_of_ble_eq_true rfl) ?_
  refine KP.aload_n dX8_init_31 rfl rfl ?_
  refine KP.getR (x := 0) (j := 0) (v := .ref (B + 1)) dX8_init_32 rfl rfl rfl in_X8 (by decide) wk_282 rfl ?_
  refine KP.ldc (v := (-2000000000)) dX8_init_35 wk_280 ?_
  refine KP.fill (x := 1) (n := 12) dX8_init_37 lk_X8_26 rfl rfl (by decide) (by decide) (by decide) (Nat.le_of_ble_eq_true rfl) ?_
  exact KP.done ⟨dX8_init_40, rfl, rfl, rfl, rfl⟩
def lay_X7 : List LC := [.inl (7, [none])]
def rX7_init : Room := { frames := 1, cells := 0, slots := 0, locals := 12 }
def mem_X7 : Mm := ((fun _ _ => 0, fun _ _ => 0) : Mm)
set_option maxRecDepth 100000 in
set_option maxHeartbeats 4000000 in
theorem inK_X7 (l : Launch) (G : va_G) (tc : Nat → ClassId) : InK l G tc yX7_init cX7_init 1 rX7_init 1 0 0 (.inr (7, [.int 0])) (fun B es' => es' = esOf tc (fun k => B + k) mem_X7 0 lay_X7) := by
  refine ink_of (by decide) rfl (by decide) (by decide) (fun B => ?_)
  show KP l G tc B 1 true RX7 cX7_init 1 rX7_init (.code yX7_init cX7_init 1 none) 0 [some (.ref B)] [] [.inr (7, [.int 0])] 0 0 (EndK cX7_init B (fun B es' => es' = esOf tc (fun k => B + k) mem_X7 0 lay_X7) 0 0)
  refine KP.aload_n dX7_init_0 rfl rfl ?_
  refine KP.obj dX7_init_1 wk_305 wk_65 wk_66 (by decide) (by decide) ?_
  exact KP.done ⟨dX7_init_4, rfl, rfl, rfl, rfl⟩
def lay_X9 : List LC := [.inl (9, [some 1, some 30, some 32, some 37, some 41, some 43, some 61, some 68]), .inl (2, [some 2, some 21, some 27, some 28, some 29, none]), .inl (0, [some 3, some 4, some 5, some 6, some 19, some 20, none]), .inr (.inl (0, 12)), .inr (.inl (0, 12)), .inr (.inl (1, 12)), .inr (.inr (.inr [7, 8, 9, 10, 11, 12, 13, 14, 15, 16, 17, 18])), .inr (.inl (0, 4)), .inr (.inl (0, 4)), .inr (.inl (0, 4)), .inr (.inl (0, 4)), .inr (.inl (0, 4)), .inr (.inl (0, 4)), .inr (.inl (0, 4)), .inr (.inl (0, 4)), .inr (.inl (0, 4)), .inr (.inl (0, 4)), .inr (.inl (0, 4)), .inr (.inl (0, 4)), .inr (.inl (0, 12)), .inr (.inl (0, 12)), .inl (3, [some 22, some 23, some 24, some 25, some 26, none]), .inr (.inl (0, 50)), .inr (.inl (0, 50)), .inr (.inl (0, 50)), .inr (.inl (0, 50)), .inr (.inl (0, 50)), .inr (.inl (0, 62)), .inr (.inl (0, 62)), .inr (.inl (0, 50)), .inl (4, [some 31, none]), .inr (.inl (0, 12)), .inr (.inr (.inr [33, 34, 35, 36])), .inr (.inl (0, 12)), .inr (.inl (0, 12)), .inr (.inl (0, 12)), .inr (.inl (0, 12)), .inl (6, [some 38, some 39, some 40]), .inr (.inl (0, 50)), .inr (.inl (1, 12)), .inr (.inl (0, 12)), .inl (1, [some 42, none]), .inr (.inl (0, 12)), .inl (5, [some 44, some 45, some 46, some 47, some 54, none]), .inr (.inl (0, 6)), .inr (.inl (0, 6)), .inr (.inl (1, 6)), .inr (.inr (.inr [48, 49, 50, 51, 52, 53])), .inr (.inl (0, 12)), .inr (.inl (0, 12)), .inr (.inl (0, 12)), .inr (.inl (0, 12)), .inr (.inl (0, 12)), .inr (.inl (0, 12)), .inr (.inr (.inr [55, 56, 57, 58, 59, 60])), .inr (.inl (0, 12)), .inr (.inl (0, 12)), .inr (.inl (0, 12)), .inr (.inl (0, 12)), .inr (.inl (0, 12)), .inr (.inl (0, 12)), .inl (8, [some 62, some 63, some 64, none, none]), .inr (.inl (0, 12)), .inr (.inl (0, 12)), .inl (6, [some 65, some 66, some 67]), .inr (.inl (0, 50)), .inr (.inl (1, 12)), .inr (.inl (0, 12)), .inl (7, [none])]
def rX9_init : Room := { frames := 3, cells := 68, slots := 1007, locals := 52 }
def mem_X9 : Mm := ((fun k => if k = 33 ∨ k = 34 ∨ k = 35 ∨ k = 36 ∨ k = 62 then (fun j => if j < 12 then (-2000000000) else 0) else fun _ => 0, fun _ _ => 0) : Mm)
set_option maxRecDepth 100000 in
set_option maxHeartbeats 4000000 in
theorem inK_X9 (l : Launch) (G : va_G) (tc : Nat → ClassId) : InK l G tc yX9_init cX9_init 2 rX9_init 69 68 1007 (.inr (9, [.null, .null, .null, .null, .null, .null, .null, .null])) (fun B es' => es' = esOf tc (fun k => B + k) mem_X9 0 lay_X9) := by
  refine ink_of (by decide) rfl (by decide) (by decide) (fun B => ?_)
  show KP l G tc B 69 true RX9 cX9_init 2 rX9_init (.code yX9_init cX9_init 2 none) 0 [some (.ref B), none] [] [.inr (9, [.null, .null, .null, .null, .null, .null, .null, .null])] 0 0 (EndK cX9_init B (fun B es' => es' = esOf tc (fun k => B + k) mem_X9 0 lay_X9) 68 1007)
  have hr0 : ([] : List va_E).length = 0 := rfl
  refine KP.aload_n dX9_init_0 rfl rfl ?_
  refine KP.obj dX9_init_1 wk_64 wk_65 wk_66 (by decide) (by decide) ?_
  refine KP.aload_n dX9_init_4 rfl rfl ?_
  refine KP.new (ci := 2) (fs := [.null, .null, .null, .null, .null, .int 0]) (q := B + 1) dX9_init_5 rfl in_X2 tyX2_ok wk_67 wk_68 wk_47 (fun j hj => match j, hj with | 0, _ => rfl | 1, _ => rfl | 2, _ => rfl | 3, _ => rfl | 4, _ => rfl | 5, _ => rfl | j + 6, hz => absurd hz (by omega)) (show B + (([] : List va_E).length + 1) = B + 1 by rw [hr0]) (show ([] : List va_E).length + 1 + 1 ≤ 69 by rw [hr0]; decide) (by decide) (by decide) ?_
  refine KP.dup dX9_init_8 rfl ?_
  refine KP.initN _ dX9_init_9 rfl (show B + (([] : List va_E).length + 1) = B + 1 by rw [hr0]) (inK_X2 l G tc) (List.mem_of_getElem? (i := 0) (by decide +kernel) : (RX9, 9, yX2_init, "ThinkingForm") ∈ nestM) wk_71 wk_70 wk_47 rfl ⟨by decide, by decide, by decide +kernel⟩ (fun es' he => by rw [he, esOf_len]; rfl) rfl (show ([] : List va_E).length + 1 + 29 ≤ 69 by rw [hr0]; decide) (by decide) (by decide) (Nat.le_of_ble_eq_true rfl) (fun es' he => ?_)
  have hsh : ∀ j, j < 0 + lay_X2.length → mem_X9.1 (1 + j) = mem_X2.1 j ∧ mem_X9.2 (1 + j) = mem_X2.2 j := fun j hj => by
    have hj : j < 29 := hj
    refine ⟨?_, rfl⟩
    exact if_neg (show ¬ (1 + j = 33 ∨ 1 + j = 34 ∨ 1 + j = 35 ∨ 1 + j = 36 ∨ 1 + j = 62) by omega)
  rw [esOf_shift (B := B) (a := 1) (M' := mem_X9) _ 0 hsh] at he
  refine KP.abs (m := 0) (m' := 29) hr0 (by rw [he, esOf_len]; rfl) (fun r1 er1 hr1 => ?_)
  rw [he] at er1
  clear he hsh
  refine KP.putF (x := 0) (j := 0) (ty := .object "ThinkingForm$Net") dX9_init_12 rfl rfl rfl rfl in_X9 tyX9_ok nmX9 (by decide) wk_311 rfl rfl (by decide +kernel) rfl rfl (Nat.le_of_ble_eq_true rfl) ?_
  refine KP.re (es' := .inr (9, [.ref (B + 1), .null, .null, .null, .null, .null, .null, .null]) :: r1) rfl ?_
  refine KP.aload_n dX9_init_15 rfl rfl ?_
  refine KP.new (ci := 4) (fs := [.null, .int 0]) (q := B + 30) dX9_init_16 rfl in_X4 tyX4_ok wk_186 wk_187 wk_50 (fun j hj => match j, hj with | 0, _ => rfl | 1, _ => rfl | j + 2, hz => absurd hz (by omega)) (show B + (r1.length + 1) = B + 30 by rw [hr1]) (show r1.length + 1 + 1 ≤ 69 by rw [hr1]; decide) (by decide) (by decide) ?_
  refine KP.dup dX9_init_19 rfl ?_
  refine KP.initN _ dX9_init_20 rfl (show B + (r1.length + 1) = B + 30 by rw [hr1]) (inK_X4 l G tc) (List.mem_of_getElem? (i := 3) (by decide +kernel) : (RX9, 18, yX4_init, "ThinkingForm") ∈ nestM) wk_190 wk_189 wk_50 rfl ⟨by decide, by decide, by decide +kernel⟩ (fun es' he => by rw [he, esOf_len]; rfl) rfl (show r1.length + 1 + 2 ≤ 69 by rw [hr1]; decide) (by decide) (by decide) (Nat.le_of_ble_eq_true rfl) (fun es' he => ?_)
  have hsh : ∀ j, j < 0 + lay_X4.length → mem_X9.1 (30 + j) = mem_X4.1 j ∧ mem_X9.2 (30 + j) = mem_X4.2 j := fun j hj => by
    have hj : j < 2 := hj
    refine ⟨?_, rfl⟩
    exact if_neg (show ¬ (30 + j = 33 ∨ 30 + j = 34 ∨ 30 + j = 35 ∨ 30 + j = 36 ∨ 30 + j = 62) by omega)
  rw [esOf_shift (B := B) (a := 30) (M' := mem_X9) _ 0 hsh] at he
  refine KP.abs (m := 29) (m' := 31) hr1 (by rw [he, esOf_len]; rfl) (fun r2 er2 hr2 => ?_)
  rw [he] at er2
  clear he hsh
  refine KP.putF (x := 0) (j := 1) (ty := .object "ThinkingForm$Ring") dX9_init_23 rfl rfl rfl rfl in_X9 tyX9_ok nmX9 (by decide) wk_312 rfl rfl (by decide +kernel) rfl rfl (Nat.le_of_ble_eq_true rfl) ?_
  refine KP.re (es' := .inr (9, [.ref (B + 1), .ref (B + 30), .null, .null, .null, .null, .null, .null]) :: r2) rfl ?_
  refine KP.aload_n dX9_init_26 rfl rfl ?_
  refine KP.iconst (v := 4) dX9_init_27 (by decide) ?_
  refine KP.bipush (v := 12) dX9_init_28 (by decide) ?_
  refine KP.mna (n := 4) (kk := 12) (q := B + 32) (rs := [33, 34, 35, 36]) dX9_init_30 wk_201 wk_125 (by decide) (by decide) (by decide) (by decide) (by decide) (by decide) (show B + (r2.length + 1) = B + 32 by rw [hr2]) (show List.range' (r2.length + 1 + 1) 4 = _ by rw [hr2]; rfl) (show r2.length + 1 + 1 + 4 ≤ 69 by rw [hr2]; decide) (by decide) (by decide) ?_
  refine KP.abs (m := 31) (m' := 36) hr2 rfl (fun r3 er3 hr3 => ?_)
  refine KP.putF (x := 0) (j := 2) (ty := .array (.array .int)) dX9_init_34 rfl rfl rfl rfl in_X9 tyX9_ok nmX9 (by decide) wk_313 rfl rfl (by decide +kernel) rfl rfl (Nat.le_of_ble_eq_true rfl) ?_
  refine KP.re (es' := .inr (9, [.ref (B + 1), .ref (B + 30), .ref (B + 32), .null, .null, .null, .null, .null]) :: r3) rfl ?_
  refine KP.iconst (v := 0) dX9_init_37 (by decide) ?_
  refine KP.istore_n dX9_init_38 rfl (by decide) rfl rfl ?_
  refine KP.iload_n dX9_init_39 rfl rfl ?_
  refine KP.iconst (v := 4) dX9_init_40 (by decide) ?_
  refine KP.geF (tgt := 61) dX9_init_41 (by decide) (by decide) ?_
  refine KP.aload_n dX9_init_44 rfl rfl ?_
  refine KP.getR (x := 0) (j := 2) (v := .ref (B + 32)) dX9_init_45 rfl rfl rfl in_X9 (by decide) wk_313 rfl ?_
  refine KP.iload_n dX9_init_48 rfl rfl ?_
  refine KP.aald (x := 32) (n := 4) (r := B + 33) dX9_init_49 (by rw [er3]; exact at_app (i := 0) hr2 rfl) rfl (show ¬ ((0 : Int32) < 0 ∨ 4 ≤ (0 : Int32).toNatClampNeg) by decide) rfl ?_
  refine KP.ldc (v := (-2000000000)) dX9_init_50 wk_202 ?_
  refine KP.fill (x := 33) (n := 12) dX9_init_52 lk_X9_29 (by rw [er3]; exact at_app (i := 1) hr2 rfl) rfl (by decide) (by decide) (by decide) (Nat.le_of_ble_eq_true rfl) ?_
  subst er3
  refine KP.re (set_app (i := 1) hr2) ?_
  refine KP.abs (m := 31) (m' := 36) hr2 rfl (fun r4 er4 hr4 => ?_)
  refine KP.iinc (v := 1) dX9_init_55 rfl (by decide) (by decide) rfl rfl ?_
  refine KP.goto (tgt := 39) dX9_init_58 (by decide) ?_
  refine KP.iload_n dX9_init_39 rfl rfl ?_
  refine KP.iconst (v := 4) dX9_init_40 (by decide) ?_
  refine KP.geF (tgt := 61) dX9_init_41 (by decide) (by decide) ?_
  refine KP.aload_n dX9_init_44 rfl rfl ?_
  refine KP.getR (x := 0) (j := 2) (v := .ref (B + 32)) dX9_init_45 rfl rfl rfl in_X9 (by decide) wk_313 rfl ?_
  refine KP.iload_n dX9_init_48 rfl rfl ?_
  refine KP.aald (x := 32) (n := 4) (r := B + 34) dX9_init_49 (by rw [er4]; exact at_app (i := 0) hr2 rfl) rfl (show ¬ ((1 : Int32) < 0 ∨ 4 ≤ (1 : Int32).toNatClampNeg) by decide) rfl ?_
  refine KP.ldc (v := (-2000000000)) dX9_init_50 wk_202 ?_
  refine KP.fill (x := 34) (n := 12) dX9_init_52 lk_X9_29 (by rw [er4]; exact at_app (i := 2) hr2 rfl) rfl (by decide) (by decide) (by decide) (Nat.le_of_ble_eq_true rfl) ?_
  subst er4
  refine KP.re (set_app (i := 2) hr2) ?_
  refine KP.abs (m := 31) (m' := 36) hr2 rfl (fun r5 er5 hr5 => ?_)
  refine KP.iinc (v := 2) dX9_init_55 rfl (by decide) (by decide) rfl rfl ?_
  refine KP.goto (tgt := 39) dX9_init_58 (by decide) ?_
  refine KP.iload_n dX9_init_39 rfl rfl ?_
  refine KP.iconst (v := 4) dX9_init_40 (by decide) ?_
  refine KP.geF (tgt := 61) dX9_init_41 (by decide) (by decide) ?_
  refine KP.aload_n dX9_init_44 rfl rfl ?_
  refine KP.getR (x := 0) (j := 2) (v := .ref (B + 32)) dX9_init_45 rfl rfl rfl in_X9 (by decide) wk_313 rfl ?_
  refine KP.iload_n dX9_init_48 rfl rfl ?_
  refine KP.aald (x := 32) (n := 4) (r := B + 35) dX9_init_49 (by rw [er5]; exact at_app (i := 0) hr2 rfl) rfl (show ¬ ((2 : Int32) < 0 ∨ 4 ≤ (2 : Int32).toNatClampNeg) by decide) rfl ?_
  refine KP.ldc (v := (-2000000000)) dX9_init_50 wk_202 ?_
  refine KP.fill (x := 35) (n := 12) dX9_init_52 lk_X9_29 (by rw [er5]; exact at_app (i := 3) hr2 rfl) rfl (by decide) (by decide) (by decide) (Nat.le_of_ble_eq_true rfl) ?_
  subst er5
  refine KP.re (set_app (i := 3) hr2) ?_
  refine KP.abs (m := 31) (m' := 36) hr2 rfl (fun r6 er6 hr6 => ?_)
  refine KP.iinc (v := 3) dX9_init_55 rfl (by decide) (by decide) rfl rfl ?_
  refine KP.goto (tgt := 39) dX9_init_58 (by decide) ?_
  refine KP.iload_n dX9_init_39 rfl rfl ?_
  refine KP.iconst (v := 4) dX9_init_40 (by decide) ?_
  refine KP.geF (tgt := 61) dX9_init_41 (by decide) (by decide) ?_
  refine KP.aload_n dX9_init_44 rfl rfl ?_
  refine KP.getR (x := 0) (j := 2) (v := .ref (B + 32)) dX9_init_45 rfl rfl rfl in_X9 (by decide) wk_313 rfl ?_
  refine KP.iload_n dX9_init_48 rfl rfl ?_
  refine KP.aald (x := 32) (n := 4) (r := B + 36) dX9_init_49 (by rw [er6]; exact at_app (i := 0) hr2 rfl) rfl (show ¬ ((3 : Int32) < 0 ∨ 4 ≤ (3 : Int32).toNatClampNeg) by decide) rfl ?_
  refine KP.ldc (v := (-2000000000)) dX9_init_50 wk_202 ?_
  refine KP.fill (x := 36) (n := 12) dX9_init_52 lk_X9_29 (by rw [er6]; exact at_app (i := 4) hr2 rfl) rfl (by decide) (by decide) (by decide) (Nat.le_of_ble_eq_true rfl) ?_
  subst er6
  refine KP.re (set_app (i := 4) hr2) ?_
  refine KP.abs (m := 31) (m' := 36) hr2 rfl (fun r7 er7 hr7 => ?_)
  refine KP.iinc (v := 4) dX9_init_55 rfl (by decide) (by decide) rfl rfl ?_
  refine KP.goto (tgt := 39) dX9_init_58 (by decide) ?_
  refine KP.iload_n dX9_init_39 rfl rfl ?_
  refine KP.iconst (v := 4) dX9_init_40 (by decide) ?_
  refine KP.geT (tgt := 61) dX9_init_41 (by decide) (by decide) ?_
  refine KP.aload_n dX9_init_61 rfl rfl ?_
  refine KP.new (ci := 6) (fs := [.null, .null, .null]) (q := B + 37) dX9_init_62 rfl in_X6 tyX6_ok wk_206 wk_207 wk_52 (fun j hj => match j, hj with | 0, _ => rfl | 1, _ => rfl | 2, _ => rfl | j + 3, hz => absurd hz (by omega)) (show B + (r7.length + 1) = B + 37 by rw [hr7]) (show r7.length + 1 + 1 ≤ 69 by rw [hr7]; decide) (by decide) (by decide) ?_
  refine KP.dup dX9_init_65 rfl ?_
  refine KP.initN _ dX9_init_66 rfl (show B + (r7.length + 1) = B + 37 by rw [hr7]) (inK_X6 l G tc) (List.mem_of_getElem? (i := 4) (by decide +kernel) : (RX9, 37, yX6_init, "ThinkingForm") ∈ nestM) wk_210 wk_209 wk_52 rfl ⟨by decide, by decide, by decide +kernel⟩ (fun es' he => by rw [he, esOf_len]; rfl) rfl (show r7.length + 1 + 4 ≤ 69 by rw [hr7]; decide) (by decide) (by decide) (Nat.le_of_ble_eq_true rfl) (fun es' he => ?_)
  have hsh : ∀ j, j < 0 + lay_X6.length → mem_X9.1 (37 + j) = mem_X6.1 j ∧ mem_X9.2 (37 + j) = mem_X6.2 j := fun j hj => by
    have hj : j < 4 := hj
    refine ⟨?_, rfl⟩
    exact if_neg (show ¬ (37 + j = 33 ∨ 37 + j = 34 ∨ 37 + j = 35 ∨ 37 + j = 36 ∨ 37 + j = 62) by omega)
  rw [esOf_shift (B := B) (a := 37) (M' := mem_X9) _ 0 hsh] at he
  refine KP.abs (m := 36) (m' := 40) hr7 (by rw [he, esOf_len]; rfl) (fun r8 er8 hr8 => ?_)
  rw [he] at er8
  clear he hsh
  refine KP.putF (x := 0) (j := 3) (ty := .object "ThinkingForm$Sight") dX9_init_69 rfl rfl rfl rfl in_X9 tyX9_ok nmX9 (by decide) wk_314 rfl rfl (by decide +kernel) rfl rfl (Nat.le_of_ble_eq_true rfl) ?_
  refine KP.re (es' := .inr (9, [.ref (B + 1), .ref (B + 30), .ref (B + 32), .ref (B + 37), .null, .null, .null, .null]) :: r8) rfl ?_
  refine KP.aload_n dX9_init_72 rfl rfl ?_
  refine KP.new (ci := 1) (fs := [.null, .int 0]) (q := B + 41) dX9_init_73 rfl in_X1 tyX1_ok wk_225 wk_226 wk_53 (fun j hj => match j, hj with | 0, _ => rfl | 1, _ => rfl | j + 2, hz => absurd hz (by omega)) (show B + (r8.length + 1) = B + 41 by rw [hr8]) (show r8.length + 1 + 1 ≤ 69 by rw [hr8]; decide) (by decide) (by decide) ?_
  refine KP.dup dX9_init_76 rfl ?_
  refine KP.initN _ dX9_init_77 rfl (show B + (r8.length + 1) = B + 41 by rw [hr8]) (inK_X1 l G tc) (List.mem_of_getElem? (i := 5) (by decide +kernel) : (RX9, 44, yX1_init, "ThinkingForm") ∈ nestM) wk_229 wk_228 wk_53 rfl ⟨by decide, by decide, by decide +kernel⟩ (fun es' he => by rw [he, esOf_len]; rfl) rfl (show r8.length + 1 + 2 ≤ 69 by rw [hr8]; decide) (by decide) (by decide) (Nat.le_of_ble_eq_true rfl) (fun es' he => ?_)
  have hsh : ∀ j, j < 0 + lay_X1.length → mem_X9.1 (41 + j) = mem_X1.1 j ∧ mem_X9.2 (41 + j) = mem_X1.2 j := fun j hj => by
    have hj : j < 2 := hj
    refine ⟨?_, rfl⟩
    exact if_neg (show ¬ (41 + j = 33 ∨ 41 + j = 34 ∨ 41 + j = 35 ∨ 41 + j = 36 ∨ 41 + j = 62) by omega)
  rw [esOf_shift (B := B) (a := 41) (M' := mem_X9) _ 0 hsh] at he
  refine KP.abs (m := 40) (m' := 42) hr8 (by rw [he, esOf_len]; rfl) (fun r9 er9 hr9 => ?_)
  rw [he] at er9
  clear he hsh
  refine KP.putF (x := 0) (j := 4) (ty := .object "ThinkingForm$Joining") dX9_init_80 rfl rfl rfl rfl in_X9 tyX9_ok nmX9 (by decide) wk_315 rfl rfl (by decide +kernel) rfl rfl (Nat.le_of_ble_eq_true rfl) ?_
  refine KP.re (es' := .inr (9, [.ref (B + 1), .ref (B + 30), .ref (B + 32), .ref (B + 37), .ref (B + 41), .null, .null, .null]) :: r9) rfl ?_
  refine KP.aload_n dX9_init_83 rfl rfl ?_
  refine KP.new (ci := 5) (fs := [.null, .null, .null, .null, .null, .int 0]) (q := B + 43) dX9_init_84 rfl in_X5 tyX5_ok wk_240 wk_241 wk_54 (fun j hj => match j, hj with | 0, _ => rfl | 1, _ => rfl | 2, _ => rfl | 3, _ => rfl | 4, _ => rfl | 5, _ => rfl | j + 6, hz => absurd hz (by omega)) (show B + (r9.length + 1) = B + 43 by rw [hr9]) (show r9.length + 1 + 1 ≤ 69 by rw [hr9]; decide) (by decide) (by decide) ?_
  refine KP.dup dX9_init_87 rfl ?_
  refine KP.initN _ dX9_init_88 rfl (show B + (r9.length + 1) = B + 43 by rw [hr9]) (inK_X5 l G tc) (List.mem_of_getElem? (i := 6) (by decide +kernel) : (RX9, 51, yX5_init, "ThinkingForm") ∈ nestM) wk_244 wk_243 wk_54 rfl ⟨by decide, by decide, by decide +kernel⟩ (fun es' he => by rw [he, esOf_len]; rfl) rfl (show r9.length + 1 + 18 ≤ 69 by rw [hr9]; decide) (by decide) (by decide) (Nat.le_of_ble_eq_true rfl) (fun es' he => ?_)
  have hsh : ∀ j, j < 0 + lay_X5.length → mem_X9.1 (43 + j) = mem_X5.1 j ∧ mem_X9.2 (43 + j) = mem_X5.2 j := fun j hj => by
    have hj : j < 18 := hj
    refine ⟨?_, rfl⟩
    exact if_neg (show ¬ (43 + j = 33 ∨ 43 + j = 34 ∨ 43 + j = 35 ∨ 43 + j = 36 ∨ 43 + j = 62) by omega)
  rw [esOf_shift (B := B) (a := 43) (M' := mem_X9) _ 0 hsh] at he
  refine KP.abs (m := 42) (m' := 60) hr9 (by rw [he, esOf_len]; rfl) (fun r10 er10 hr10 => ?_)
  rw [he] at er10
  clear he hsh
  refine KP.putF (x := 0) (j := 5) (ty := .object "ThinkingForm$Seals") dX9_init_91 rfl rfl rfl rfl in_X9 tyX9_ok nmX9 (by decide) wk_316 rfl rfl (by decide +kernel) rfl rfl (Nat.le_of_ble_eq_true rfl) ?_
  refine KP.re (es' := .inr (9, [.ref (B + 1), .ref (B + 30), .ref (B + 32), .ref (B + 37), .ref (B + 41), .ref (B + 43), .null, .null]) :: r10) rfl ?_
  refine KP.aload_n dX9_init_94 rfl rfl ?_
  refine KP.new (ci := 8) (fs := [.null, .null, .null, .int 0, .int 0]) (q := B + 61) dX9_init_95 rfl in_X8 tyX8_ok wk_272 wk_273 wk_55 (fun j hj => match j, hj with | 0, _ => rfl | 1, _ => rfl | 2, _ => rfl | 3, _ => rfl | 4, _ => rfl | j + 5, hz => absurd hz (by omega)) (show B + (r10.length + 1) = B + 61 by rw [hr10]) (show r10.length + 1 + 1 ≤ 69 by rw [hr10]; decide) (by decide) (by decide) ?_
  refine KP.dup dX9_init_98 rfl ?_
  refine KP.initM _ dX9_init_99 rfl (show B + (r10.length + 1) = B + 61 by rw [hr10]) (inK_X8 l G tc) wk_274 wk_276 wk_275 wk_55 rfl ⟨by decide, by decide, by decide +kernel⟩ (fun es' he => by rw [he, esOf_len]; rfl) rfl (show r10.length + 1 + 7 ≤ 69 by rw [hr10]; decide) (by decide) (by decide) (Nat.le_of_ble_eq_true rfl) (fun es' he => ?_)
  have hsh : ∀ j, j < 0 + lay_X8.length → mem_X9.1 (61 + j) = mem_X8.1 j ∧ mem_X9.2 (61 + j) = mem_X8.2 j := fun j hj => by
    have hj : j < 7 := hj
    refine ⟨?_, rfl⟩
    by_cases hj1 : j = 1
    · subst hj1; rfl
    · exact (if_neg (show ¬ (61 + j = 33 ∨ 61 + j = 34 ∨ 61 + j = 35 ∨ 61 + j = 36 ∨ 61 + j = 62) by omega)).trans (if_neg (show ¬ (j = 1) by omega)).symm
  rw [esOf_shift (B := B) (a := 61) (M' := mem_X9) _ 0 hsh] at he
  refine KP.abs (m := 60) (m' := 67) hr10 (by rw [he, esOf_len]; rfl) (fun r11 er11 hr11 => ?_)
  rw [he] at er11
  clear he hsh
  refine KP.putF (x := 0) (j := 6) (ty := .object "ThinkingForm$Trial") dX9_init_102 rfl rfl rfl rfl in_X9 tyX9_ok nmX9 (by decide) wk_317 rfl rfl (by decide +kernel) rfl rfl (Nat.le_of_ble_eq_true rfl) ?_
  refine KP.re (es' := .inr (9, [.ref (B + 1), .ref (B + 30), .ref (B + 32), .ref (B + 37), .ref (B + 41), .ref (B + 43), .ref (B + 61), .null]) :: r11) rfl ?_
  refine KP.aload_n dX9_init_105 rfl rfl ?_
  refine KP.new (ci := 7) (fs := [.int 0]) (q := B + 68) dX9_init_106 rfl in_X7 tyX7_ok wk_300 wk_301 wk_56 (fun j hj => match j, hj with | 0, _ => rfl | j + 1, hz => absurd hz (by omega)) (show B + (r11.length + 1) = B + 68 by rw [hr11]) (show r11.length + 1 + 1 ≤ 69 by rw [hr11]; decide) (by decide) (by decide) ?_
  refine KP.dup dX9_init_109 rfl ?_
  refine KP.initN _ dX9_init_110 rfl (show B + (r11.length + 1) = B + 68 by rw [hr11]) (inK_X7 l G tc) (List.mem_of_getElem? (i := 8) (by decide +kernel) : (RX9, 65, yX7_init, "ThinkingForm") ∈ nestM) wk_304 wk_303 wk_56 rfl ⟨by decide, by decide, by decide +kernel⟩ (fun es' he => by rw [he, esOf_len]; rfl) rfl (show r11.length + 1 + 1 ≤ 69 by rw [hr11]; decide) (by decide) (by decide) (Nat.le_of_ble_eq_true rfl) (fun es' he => ?_)
  have hsh : ∀ j, j < 0 + lay_X7.length → mem_X9.1 (68 + j) = mem_X7.1 j ∧ mem_X9.2 (68 + j) = mem_X7.2 j := fun j hj => by
    have hj : j < 1 := hj
    refine ⟨?_, rfl⟩
    exact if_neg (show ¬ (68 + j = 33 ∨ 68 + j = 34 ∨ 68 + j = 35 ∨ 68 + j = 36 ∨ 68 + j = 62) by omega)
  rw [esOf_shift (B := B) (a := 68) (M' := mem_X9) _ 0 hsh] at he
  refine KP.abs (m := 67) (m' := 68) hr11 (by rw [he, esOf_len]; rfl) (fun r12 er12 hr12 => ?_)
  rw [he] at er12
  clear he hsh
  refine KP.putF (x := 0) (j := 7) (ty := .object "ThinkingForm$Telling") dX9_init_113 rfl rfl rfl rfl in_X9 tyX9_ok nmX9 (by decide) wk_318 rfl rfl (by decide +kernel) rfl rfl (Nat.le_of_ble_eq_true rfl) ?_
  refine KP.re (es' := .inr (9, [.ref (B + 1), .ref (B + 30), .ref (B + 32), .ref (B + 37), .ref (B + 41), .ref (B + 43), .ref (B + 61), .ref (B + 68)]) :: r12) rfl ?_
  try subst er12
  try subst er11
  try subst er10
  try subst er9
  try subst er8
  try subst er7
  try subst er6
  try subst er5
  try subst er4
  try subst er3
  try subst er2
  try subst er1
  exact KP.done ⟨dX9_init_116, rfl, rfl, rfl, rfl⟩
def lay_X10 : List LC := [.inl (10, [none, some 1, some 2, some 3, some 4, none, some 5, some 6, some 7, some 8, none, some 9, some 10, some 11, some 12, none, some 13, some 14, some 15, some 16, some 17, some 18, some 19, none, some 20, none, some 21, some 22, some 23, some 24, some 25, none, some 26, none]), .inr (.inl (0, 12)), .inr (.inl (0, 12)), .inr (.inl (0, 12)), .inr (.inl (0, 48)), .inr (.inl (0, 50)), .inr (.inl (0, 50)), .inr (.inl (0, 50)), .inr (.inl (0, 50)), .inr (.inl (0, 12)), .inr (.inl (0, 12)), .inr (.inr (.inl 12)), .inr (.inl (0, 12)), .inr (.inl (0, 12)), .inr (.inl (0, 12)), .inr (.inl (1, 12)), .inr (.inl (0, 12)), .inr (.inl (0, 12)), .inr (.inl (0, 50)), .inr (.inl (0, 48)), .inr (.inl (0, 12)), .inr (.inl (0, 6)), .inr (.inl (0, 6)), .inr (.inl (1, 6)), .inr (.inl (0, 72)), .inr (.inl (0, 72)), .inr (.inl (0, 12))]
def rX10_init : Room := { frames := 1, cells := 26, slots := 676, locals := 12 }
