/-! the constructor of the reference -/
/-- the first memory of the reference -/
def sM0 : vMem := (fun n => match n with
  | 0 => upd (upd (fun _ => 0) 11 3) 12 4
  | _ => fun _ => 0, fun _ _ => 0)
set_option maxRecDepth 20000 in
theorem kX8 {D : va_G} {cI cZ : ClassId} {h0 : Nat} : K mX8_init D cI cZ (fun w => ∃ ad : Nat → Nat, ad 0 = h0 ∧ w = vW cI cZ ad GM sM0) 1 35 2189 0 (vEn [.ref h0] 1) [] [(h0, .inr (8, [.null, .null, .int 0, .null, .null, .null, .int 0, .null, .null, .null, .null, .int 0, .int 0, .int 0, .null, .int 0, .null, .long 0, .long 0, .int 0, .null, .null, .null, .null, .null, .null, .null, .null, .null, .null, .int 0, .int 0, .null, .null, .null, .null, .null, .int 0, .null, .null, .null, .null, .null, .null, .null, .null, .null, .int 0]))] 0 0 := by
  refine K.aload_n dX8_init_0 rfl ?_
  refine K.objInit dX8_init_1 oi_X8 oi_ins oi_code (by decide) (by decide) ?_
  refine K.aload_n dX8_init_4 rfl ?_
  refine K.iconst (v := 2) (by decide) dX8_init_5 ?_
  refine K.newI (M := 2) (cells' := 1) (slots' := 2) dX8_init_6 ar_int (by decide) (by decide) (by decide) rfl rfl (Nat.le_of_ble_eq_true rfl) (Nat.le_of_ble_eq_true rfl) (fun q1 => ?_)
  refine K.putF (ci := 8) (k := 0) (T := TX8) (M := 48) dX8_init_8 rfl klX8_7 (by decide) rfl rfl rfl rfl (Nat.le_of_ble_eq_true rfl) ?_
  refine K.aload_n dX8_init_11 rfl ?_
  refine K.bipush (v := 126) (by decide) dX8_init_12 ?_
  refine K.newI (M := 126) (cells' := 2) (slots' := 128) dX8_init_14 ar_int (by decide) (by decide) (by decide) rfl rfl (Nat.le_of_ble_eq_true rfl) (Nat.le_of_ble_eq_true rfl) (fun q2 => ?_)
  refine K.putF (ci := 8) (k := 1) (T := TX8) (M := 48) dX8_init_16 rfl klX8_13 (by decide) rfl rfl rfl rfl (Nat.le_of_ble_eq_true rfl) ?_
  refine K.aload_n dX8_init_19 rfl ?_
  refine K.bipush (v := 10) (by decide) dX8_init_20 ?_
  refine K.newI (M := 10) (cells' := 3) (slots' := 138) dX8_init_22 ar_int (by decide) (by decide) (by decide) rfl rfl (Nat.le_of_ble_eq_true rfl) (Nat.le_of_ble_eq_true rfl) (fun q3 => ?_)
  refine K.putF (ci := 8) (k := 3) (T := TX8) (M := 48) dX8_init_24 rfl klX8_16 (by decide) rfl rfl rfl rfl (Nat.le_of_ble_eq_true rfl) ?_
  refine K.aload_n dX8_init_27 rfl ?_
  refine K.bipush (v := 10) (by decide) dX8_init_28 ?_
  refine K.newI (M := 10) (cells' := 4) (slots' := 148) dX8_init_30 ar_int (by decide) (by decide) (by decide) rfl rfl (Nat.le_of_ble_eq_true rfl) (Nat.le_of_ble_eq_true rfl) (fun q4 => ?_)
  refine K.putF (ci := 8) (k := 4) (T := TX8) (M := 48) dX8_init_32 rfl klX8_19 (by decide) rfl rfl rfl rfl (Nat.le_of_ble_eq_true rfl) ?_
  refine K.aload_n dX8_init_35 rfl ?_
  refine K.bipush (v := 10) (by decide) dX8_init_36 ?_
  refine K.newI (M := 10) (cells' := 5) (slots' := 158) dX8_init_38 ar_int (by decide) (by decide) (by decide) rfl rfl (Nat.le_of_ble_eq_true rfl) (Nat.le_of_ble_eq_true rfl) (fun q5 => ?_)
  refine K.putF (ci := 8) (k := 5) (T := TX8) (M := 48) dX8_init_40 rfl klX8_22 (by decide) rfl rfl rfl rfl (Nat.le_of_ble_eq_true rfl) ?_
  refine K.aload_n dX8_init_43 rfl ?_
  refine K.bipush (v := 9) (by decide) dX8_init_44 ?_
  refine K.newI (M := 9) (cells' := 6) (slots' := 167) dX8_init_46 ar_int (by decide) (by decide) (by decide) rfl rfl (Nat.le_of_ble_eq_true rfl) (Nat.le_of_ble_eq_true rfl) (fun q6 => ?_)
  refine K.putF (ci := 8) (k := 7) (T := TX8) (M := 48) dX8_init_48 rfl klX8_25 (by decide) rfl rfl rfl rfl (Nat.le_of_ble_eq_true rfl) ?_
  refine K.aload_n dX8_init_51 rfl ?_
  refine K.bipush (v := 9) (by decide) dX8_init_52 ?_
  refine K.newI (M := 9) (cells' := 7) (slots' := 176) dX8_init_54 ar_int (by decide) (by decide) (by decide) rfl rfl (Nat.le_of_ble_eq_true rfl) (Nat.le_of_ble_eq_true rfl) (fun q7 => ?_)
  refine K.putF (ci := 8) (k := 8) (T := TX8) (M := 48) dX8_init_56 rfl klX8_28 (by decide) rfl rfl rfl rfl (Nat.le_of_ble_eq_true rfl) ?_
  refine K.aload_n dX8_init_59 rfl ?_
  refine K.bipush (v := 9) (by decide) dX8_init_60 ?_
  refine K.newI (M := 9) (cells' := 8) (slots' := 185) dX8_init_62 ar_int (by decide) (by decide) (by decide) rfl rfl (Nat.le_of_ble_eq_true rfl) (Nat.le_of_ble_eq_true rfl) (fun q8 => ?_)
  refine K.putF (ci := 8) (k := 9) (T := TX8) (M := 48) dX8_init_64 rfl klX8_31 (by decide) rfl rfl rfl rfl (Nat.le_of_ble_eq_true rfl) ?_
  refine K.aload_n dX8_init_67 rfl ?_
  refine K.bipush (v := 27) (by decide) dX8_init_68 ?_
  refine K.newI (M := 27) (cells' := 9) (slots' := 212) dX8_init_70 ar_int (by decide) (by decide) (by decide) rfl rfl (Nat.le_of_ble_eq_true rfl) (Nat.le_of_ble_eq_true rfl) (fun q9 => ?_)
  refine K.putF (ci := 8) (k := 10) (T := TX8) (M := 48) dX8_init_72 rfl klX8_34 (by decide) rfl rfl rfl rfl (Nat.le_of_ble_eq_true rfl) ?_
  refine K.aload_n dX8_init_75 rfl ?_
  refine K.bipush (v := 6) (by decide) dX8_init_76 ?_
  refine K.newI (M := 6) (cells' := 10) (slots' := 218) dX8_init_78 ar_int (by decide) (by decide) (by decide) rfl rfl (Nat.le_of_ble_eq_true rfl) (Nat.le_of_ble_eq_true rfl) (fun q10 => ?_)
  refine K.putF (ci := 8) (k := 14) (T := TX8) (M := 48) dX8_init_80 rfl klX8_37 (by decide) rfl rfl rfl rfl (Nat.le_of_ble_eq_true rfl) ?_
  refine K.aload_n dX8_init_83 rfl ?_
  refine K.bipush (v := 6) (by decide) dX8_init_84 ?_
  refine K.newI (M := 6) (cells' := 11) (slots' := 224) dX8_init_86 ar_int (by decide) (by decide) (by decide) rfl rfl (Nat.le_of_ble_eq_true rfl) (Nat.le_of_ble_eq_true rfl) (fun q11 => ?_)
  refine K.putF (ci := 8) (k := 16) (T := TX8) (M := 48) dX8_init_88 rfl klX8_40 (by decide) rfl rfl rfl rfl (Nat.le_of_ble_eq_true rfl) ?_
  refine K.aload_n dX8_init_91 rfl ?_
  refine K.bipush (v := 8) (by decide) dX8_init_92 ?_
  refine K.newI (M := 8) (cells' := 12) (slots' := 232) dX8_init_94 ar_int (by decide) (by decide) (by decide) rfl rfl (Nat.le_of_ble_eq_true rfl) (Nat.le_of_ble_eq_true rfl) (fun q12 => ?_)
  refine K.putF (ci := 8) (k := 20) (T := TX8) (M := 48) dX8_init_96 rfl klX8_43 (by decide) rfl rfl rfl rfl (Nat.le_of_ble_eq_true rfl) ?_
  refine K.aload_n dX8_init_99 rfl ?_
  refine K.bipush (v := 8) (by decide) dX8_init_100 ?_
  refine K.newI (M := 8) (cells' := 13) (slots' := 240) dX8_init_102 ar_int (by decide) (by decide) (by decide) rfl rfl (Nat.le_of_ble_eq_true rfl) (Nat.le_of_ble_eq_true rfl) (fun q13 => ?_)
  refine K.putF (ci := 8) (k := 21) (T := TX8) (M := 48) dX8_init_104 rfl klX8_46 (by decide) rfl rfl rfl rfl (Nat.le_of_ble_eq_true rfl) ?_
  refine K.aload_n dX8_init_107 rfl ?_
  refine K.bipush (v := 8) (by decide) dX8_init_108 ?_
  refine K.newI (M := 8) (cells' := 14) (slots' := 248) dX8_init_110 ar_int (by decide) (by decide) (by decide) rfl rfl (Nat.le_of_ble_eq_true rfl) (Nat.le_of_ble_eq_true rfl) (fun q14 => ?_)
  refine K.putF (ci := 8) (k := 22) (T := TX8) (M := 48) dX8_init_112 rfl klX8_49 (by decide) rfl rfl rfl rfl (Nat.le_of_ble_eq_true rfl) ?_
  refine K.aload_n dX8_init_115 rfl ?_
  refine K.sipush (v := 192) (by decide) dX8_init_116 ?_
  refine K.newI (M := 192) (cells' := 15) (slots' := 440) dX8_init_119 ar_int (by decide) (by decide) (by decide) rfl rfl (Nat.le_of_ble_eq_true rfl) (Nat.le_of_ble_eq_true rfl) (fun q15 => ?_)
  refine K.putF (ci := 8) (k := 23) (T := TX8) (M := 48) dX8_init_121 rfl klX8_52 (by decide) rfl rfl rfl rfl (Nat.le_of_ble_eq_true rfl) ?_
  refine K.aload_n dX8_init_124 rfl ?_
  refine K.bipush (v := 8) (by decide) dX8_init_125 ?_
  refine K.newZ (M := 8) (cells' := 16) (slots' := 448) dX8_init_127 ar_boo (by decide) (by decide) (by decide) rfl rfl (Nat.le_of_ble_eq_true rfl) (Nat.le_of_ble_eq_true rfl) (fun q16 => ?_)
  refine K.putF (ci := 8) (k := 24) (T := TX8) (M := 48) dX8_init_129 rfl klX8_55 (by decide) rfl rfl rfl rfl (Nat.le_of_ble_eq_true rfl) ?_
  refine K.aload_n dX8_init_132 rfl ?_
  refine K.bipush (v := 8) (by decide) dX8_init_133 ?_
  refine K.newI (M := 8) (cells' := 17) (slots' := 456) dX8_init_135 ar_int (by decide) (by decide) (by decide) rfl rfl (Nat.le_of_ble_eq_true rfl) (Nat.le_of_ble_eq_true rfl) (fun q17 => ?_)
  refine K.putF (ci := 8) (k := 25) (T := TX8) (M := 48) dX8_init_137 rfl klX8_59 (by decide) rfl rfl rfl rfl (Nat.le_of_ble_eq_true rfl) ?_
  refine K.aload_n dX8_init_140 rfl ?_
  refine K.bipush (v := 8) (by decide) dX8_init_141 ?_
  refine K.newI (M := 8) (cells' := 18) (slots' := 464) dX8_init_143 ar_int (by decide) (by decide) (by decide) rfl rfl (Nat.le_of_ble_eq_true rfl) (Nat.le_of_ble_eq_true rfl) (fun q18 => ?_)
  refine K.putF (ci := 8) (k := 26) (T := TX8) (M := 48) dX8_init_145 rfl klX8_62 (by decide) rfl rfl rfl rfl (Nat.le_of_ble_eq_true rfl) ?_
  refine K.aload_n dX8_init_148 rfl ?_
  refine K.bipush (v := 9) (by decide) dX8_init_149 ?_
  refine K.newI (M := 9) (cells' := 19) (slots' := 473) dX8_init_151 ar_int (by decide) (by decide) (by decide) rfl rfl (Nat.le_of_ble_eq_true rfl) (Nat.le_of_ble_eq_true rfl) (fun q19 => ?_)
  refine K.putF (ci := 8) (k := 27) (T := TX8) (M := 48) dX8_init_153 rfl klX8_65 (by decide) rfl rfl rfl rfl (Nat.le_of_ble_eq_true rfl) ?_
  refine K.aload_n dX8_init_156 rfl ?_
  refine K.bipush (v := 9) (by decide) dX8_init_157 ?_
  refine K.newI (M := 9) (cells' := 20) (slots' := 482) dX8_init_159 ar_int (by decide) (by decide) (by decide) rfl rfl (Nat.le_of_ble_eq_true rfl) (Nat.le_of_ble_eq_true rfl) (fun q20 => ?_)
  refine K.putF (ci := 8) (k := 28) (T := TX8) (M := 48) dX8_init_161 rfl klX8_68 (by decide) rfl rfl rfl rfl (Nat.le_of_ble_eq_true rfl) ?_
  refine K.aload_n dX8_init_164 rfl ?_
  refine K.bipush (v := 9) (by decide) dX8_init_165 ?_
  refine K.newI (M := 9) (cells' := 21) (slots' := 491) dX8_init_167 ar_int (by decide) (by decide) (by decide) rfl rfl (Nat.le_of_ble_eq_true rfl) (Nat.le_of_ble_eq_true rfl) (fun q21 => ?_)
  refine K.putF (ci := 8) (k := 29) (T := TX8) (M := 48) dX8_init_169 rfl klX8_71 (by decide) rfl rfl rfl rfl (Nat.le_of_ble_eq_true rfl) ?_
  refine K.aload_n dX8_init_172 rfl ?_
  refine K.sipush (v := 320) (by decide) dX8_init_173 ?_
  refine K.newI (M := 320) (cells' := 22) (slots' := 811) dX8_init_176 ar_int (by decide) (by decide) (by decide) rfl rfl (Nat.le_of_ble_eq_true rfl) (Nat.le_of_ble_eq_true rfl) (fun q22 => ?_)
  refine K.putF (ci := 8) (k := 32) (T := TX8) (M := 48) dX8_init_178 rfl klX8_74 (by decide) rfl rfl rfl rfl (Nat.le_of_ble_eq_true rfl) ?_
  refine K.aload_n dX8_init_181 rfl ?_
  refine K.sipush (v := 320) (by decide) dX8_init_182 ?_
  refine K.newI (M := 320) (cells' := 23) (slots' := 1131) dX8_init_185 ar_int (by decide) (by decide) (by decide) rfl rfl (Nat.le_of_ble_eq_true rfl) (Nat.le_of_ble_eq_true rfl) (fun q23 => ?_)
  refine K.putF (ci := 8) (k := 33) (T := TX8) (M := 48) dX8_init_187 rfl klX8_77 (by decide) rfl rfl rfl rfl (Nat.le_of_ble_eq_true rfl) ?_
  refine K.aload_n dX8_init_190 rfl ?_
  refine K.sipush (v := 320) (by decide) dX8_init_191 ?_
  refine K.newI (M := 320) (cells' := 24) (slots' := 1451) dX8_init_194 ar_int (by decide) (by decide) (by decide) rfl rfl (Nat.le_of_ble_eq_true rfl) (Nat.le_of_ble_eq_true rfl) (fun q24 => ?_)
  refine K.putF (ci := 8) (k := 34) (T := TX8) (M := 48) dX8_init_196 rfl klX8_80 (by decide) rfl rfl rfl rfl (Nat.le_of_ble_eq_true rfl) ?_
  refine K.aload_n dX8_init_199 rfl ?_
  refine K.sipush (v := 320) (by decide) dX8_init_200 ?_
  refine K.newZ (M := 320) (cells' := 25) (slots' := 1771) dX8_init_203 ar_boo (by decide) (by decide) (by decide) rfl rfl (Nat.le_of_ble_eq_true rfl) (Nat.le_of_ble_eq_true rfl) (fun q25 => ?_)
  refine K.putF (ci := 8) (k := 35) (T := TX8) (M := 48) dX8_init_205 rfl klX8_83 (by decide) rfl rfl rfl rfl (Nat.le_of_ble_eq_true rfl) ?_
  refine K.aload_n dX8_init_208 rfl ?_
  refine K.iconst (v := 2) (by decide) dX8_init_209 ?_
  refine K.newI (M := 2) (cells' := 26) (slots' := 1773) dX8_init_210 ar_int (by decide) (by decide) (by decide) rfl rfl (Nat.le_of_ble_eq_true rfl) (Nat.le_of_ble_eq_true rfl) (fun q26 => ?_)
  refine K.putF (ci := 8) (k := 36) (T := TX8) (M := 48) dX8_init_212 rfl klX8_86 (by decide) rfl rfl rfl rfl (Nat.le_of_ble_eq_true rfl) ?_
  refine K.aload_n dX8_init_215 rfl ?_
  refine K.bipush (v := 8) (by decide) dX8_init_216 ?_
  refine K.newI (M := 8) (cells' := 27) (slots' := 1781) dX8_init_218 ar_int (by decide) (by decide) (by decide) rfl rfl (Nat.le_of_ble_eq_true rfl) (Nat.le_of_ble_eq_true rfl) (fun q27 => ?_)
  refine K.putF (ci := 8) (k := 38) (T := TX8) (M := 48) dX8_init_220 rfl klX8_89 (by decide) rfl rfl rfl rfl (Nat.le_of_ble_eq_true rfl) ?_
  refine K.aload_n dX8_init_223 rfl ?_
  refine K.bipush (v := 8) (by decide) dX8_init_224 ?_
  refine K.newI (M := 8) (cells' := 28) (slots' := 1789) dX8_init_226 ar_int (by decide) (by decide) (by decide) rfl rfl (Nat.le_of_ble_eq_true rfl) (Nat.le_of_ble_eq_true rfl) (fun q28 => ?_)
  refine K.putF (ci := 8) (k := 39) (T := TX8) (M := 48) dX8_init_228 rfl klX8_92 (by decide) rfl rfl rfl rfl (Nat.le_of_ble_eq_true rfl) ?_
  refine K.aload_n dX8_init_231 rfl ?_
  refine K.bipush (v := 8) (by decide) dX8_init_232 ?_
  refine K.newI (M := 8) (cells' := 29) (slots' := 1797) dX8_init_234 ar_int (by decide) (by decide) (by decide) rfl rfl (Nat.le_of_ble_eq_true rfl) (Nat.le_of_ble_eq_true rfl) (fun q29 => ?_)
  refine K.putF (ci := 8) (k := 40) (T := TX8) (M := 48) dX8_init_236 rfl klX8_95 (by decide) rfl rfl rfl rfl (Nat.le_of_ble_eq_true rfl) ?_
  refine K.aload_n dX8_init_239 rfl ?_
  refine K.bipush (v := 80) (by decide) dX8_init_240 ?_
  refine K.newI (M := 80) (cells' := 30) (slots' := 1877) dX8_init_242 ar_int (by decide) (by decide) (by decide) rfl rfl (Nat.le_of_ble_eq_true rfl) (Nat.le_of_ble_eq_true rfl) (fun q30 => ?_)
  refine K.putF (ci := 8) (k := 41) (T := TX8) (M := 48) dX8_init_244 rfl klX8_98 (by decide) rfl rfl rfl rfl (Nat.le_of_ble_eq_true rfl) ?_
  refine K.aload_n dX8_init_247 rfl ?_
  refine K.iconst (v := 4) (by decide) dX8_init_248 ?_
  refine K.newZ (M := 4) (cells' := 31) (slots' := 1881) dX8_init_249 ar_boo (by decide) (by decide) (by decide) rfl rfl (Nat.le_of_ble_eq_true rfl) (Nat.le_of_ble_eq_true rfl) (fun q31 => ?_)
  refine K.putF (ci := 8) (k := 42) (T := TX8) (M := 48) dX8_init_251 rfl klX8_101 (by decide) rfl rfl rfl rfl (Nat.le_of_ble_eq_true rfl) ?_
  refine K.aload_n dX8_init_254 rfl ?_
  refine K.iconst (v := 4) (by decide) dX8_init_255 ?_
  refine K.newI (M := 4) (cells' := 32) (slots' := 1885) dX8_init_256 ar_int (by decide) (by decide) (by decide) rfl rfl (Nat.le_of_ble_eq_true rfl) (Nat.le_of_ble_eq_true rfl) (fun q32 => ?_)
  refine K.putF (ci := 8) (k := 43) (T := TX8) (M := 48) dX8_init_258 rfl klX8_104 (by decide) rfl rfl rfl rfl (Nat.le_of_ble_eq_true rfl) ?_
  refine K.aload_n dX8_init_261 rfl ?_
  refine K.iconst (v := 4) (by decide) dX8_init_262 ?_
  refine K.newI (M := 4) (cells' := 33) (slots' := 1889) dX8_init_263 ar_int (by decide) (by decide) (by decide) rfl rfl (Nat.le_of_ble_eq_true rfl) (Nat.le_of_ble_eq_true rfl) (fun q33 => ?_)
  refine K.putF (ci := 8) (k := 44) (T := TX8) (M := 48) dX8_init_265 rfl klX8_107 (by decide) rfl rfl rfl rfl (Nat.le_of_ble_eq_true rfl) ?_
  refine K.aload_n dX8_init_268 rfl ?_
  refine K.sipush (v := 240) (by decide) dX8_init_269 ?_
  refine K.newI (M := 240) (cells' := 34) (slots' := 2129) dX8_init_272 ar_int (by decide) (by decide) (by decide) rfl rfl (Nat.le_of_ble_eq_true rfl) (Nat.le_of_ble_eq_true rfl) (fun q34 => ?_)
  refine K.putF (ci := 8) (k := 45) (T := TX8) (M := 48) dX8_init_274 rfl klX8_110 (by decide) rfl rfl rfl rfl (Nat.le_of_ble_eq_true rfl) ?_
  refine K.aload_n dX8_init_277 rfl ?_
  refine K.bipush (v := 60) (by decide) dX8_init_278 ?_
  refine K.newI (M := 60) (cells' := 35) (slots' := 2189) dX8_init_280 ar_int (by decide) (by decide) (by decide) rfl rfl (Nat.le_of_ble_eq_true rfl) (Nat.le_of_ble_eq_true rfl) (fun q35 => ?_)
  refine K.putF (ci := 8) (k := 46) (T := TX8) (M := 48) dX8_init_282 rfl klX8_113 (by decide) rfl rfl rfl rfl (Nat.le_of_ble_eq_true rfl) ?_
  refine K.aload_n dX8_init_285 rfl ?_
  refine K.iconst (v := 3) (by decide) dX8_init_286 ?_
  refine K.put (ci := 8) (k := 11) (T := TX8) (M := 48) dX8_init_287 rfl klX8_116 (by decide) rfl rfl rfl (Nat.le_of_ble_eq_true rfl) ?_
  refine K.aload_n dX8_init_290 rfl ?_
  refine K.iconst (v := 4) (by decide) dX8_init_291 ?_
  refine K.put (ci := 8) (k := 12) (T := TX8) (M := 48) dX8_init_292 rfl klX8_120 (by decide) rfl rfl rfl (Nat.le_of_ble_eq_true rfl) ?_
  exact K.vret dX8_init_295 rfl rfl rfl ⟨fun n => [h0, q1, q2, q3, q4, q5, q6, q7, q8, q9, q10, q11, q12, q13, q14, q15, q16, q17, q18, q19, q20, q21, q22, q23, q24, q25, q26, q27, q28, q29, q30, q31, q32, q33, q34, q35].getD n 0, rfl, rfl⟩
