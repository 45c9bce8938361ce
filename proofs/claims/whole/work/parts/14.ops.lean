/-! The law's cases, call by call. -/
def lfd (a b : Int32) : Int64 := (a.toInt64 <<< (((Int8.ofInt 32).toInt32).toInt64 &&& 63)) ||| (b.toInt64 &&& 4294967295)
theorem mrcv_of {k' a : Nat} {As fs : List Value} {hp : List mE} (h : hp[a]? = some (.inr (mown k', fs))) : mrcv 0 k' (.ref a :: As) hp = true := by
  simp [mrcv, h]
theorem lcmp_eq (v : Int64) : lg_cmp v v = 0 := by simp [lg_cmp]
theorem mw_104 : mtb[104]? = some (mY104, prog_1_method_2_code, 4, some .int, 10, 377, 128, 2) := rfl
theorem mw_105 : mtb[105]? = some (mY105, prog_1_method_3_code, 2, some .int, 10, 386, 128, 0) := rfl
theorem mw_107 : mtb[107]? = some (mY107, prog_1_method_5_code, 1, some .int, 10, 513, 128, 0) := rfl
theorem mw_108 : mtb[108]? = some (mY108, prog_1_method_6_code, 3, some .int, 10, 517, 128, 2) := rfl
theorem mw_109 : mtb[109]? = some (mY109, prog_1_method_7_code, 3, some .int, 10, 525, 128, 2) := rfl
theorem mw_110 : mtb[110]? = some (mY110, prog_1_method_8_code, 2, some .int, 10, 529, 128, 1) := rfl
theorem mw_111 : mtb[111]? = some (mY111, prog_1_method_9_code, 2, some .int, 10, 533, 128, 1) := rfl
theorem mw_112 : mtb[112]? = some (mY112, prog_1_method_10_code, 2, some .int, 10, 537, 128, 0) := rfl
theorem mw_113 : mtb[113]? = some (mY113, prog_1_method_11_code, 2, some .int, 10, 577, 128, 1) := rfl
theorem mw_114 : mtb[114]? = some (mY114, prog_1_method_12_code, 3, some .int, 10, 585, 128, 2) := rfl
theorem mw_115 : mtb[115]? = some (mY115, prog_1_method_13_code, 3, some .int, 10, 590, 128, 2) := rfl
theorem mw_116 : mtb[116]? = some (mY116, prog_1_method_14_code, 4, some .long, 10, 598, 128, 3) := rfl
theorem mw_117 : mtb[117]? = some (mY117, prog_1_method_15_code, 3, some .int, 10, 621, 128, 2) := rfl
theorem mw_118 : mtb[118]? = some (mY118, prog_1_method_16_code, 2, some .int, 10, 642, 128, 1) := rfl
theorem mw_119 : mtb[119]? = some (mY119, prog_1_method_17_code, 3, some .int, 10, 650, 128, 2) := rfl
theorem mw_120 : mtb[120]? = some (mY120, prog_1_method_18_code, 2, some .int, 10, 660, 128, 1) := rfl
theorem mw_121 : mtb[121]? = some (mY121, prog_1_method_19_code, 2, some .long, 10, 673, 128, 1) := rfl
theorem mw_122 : mtb[122]? = some (mY122, prog_1_method_20_code, 3, some .int, 10, 793, 128, 2) := rfl
theorem mw_123 : mtb[123]? = some (mY123, prog_1_method_21_code, 4, some .long, 10, 801, 128, 3) := rfl
theorem mw_124 : mtb[124]? = some (mY124, prog_1_method_22_code, 4, some .int, 10, 809, 128, 3) := rfl
theorem mw_125 : mtb[125]? = some (mY125, prog_1_method_23_code, 4, some .int, 10, 829, 128, 3) := rfl
theorem mw_126 : mtb[126]? = some (mY126, prog_1_method_24_code, 2, some .int, 10, 841, 128, 1) := rfl
theorem mw_127 : mtb[127]? = some (mY127, prog_1_method_25_code, 2, some .int, 10, 861, 128, 1) := rfl
theorem mw_129 : mtb[129]? = some (mY129, prog_1_method_27_code, 2, some .int, 10, 877, 128, 1) := rfl
theorem mw_130 : mtb[130]? = some (mY130, prog_1_method_28_code, 3, some .int, 10, 896, 128, 2) := rfl
theorem mw_131 : mtb[131]? = some (mY131, prog_1_method_29_code, 4, some .int, 10, 976, 128, 3) := rfl
theorem mw_132 : mtb[132]? = some (mY132, prog_1_method_30_code, 4, some .int, 10, 993, 128, 3) := rfl
theorem mw_133 : mtb[133]? = some (mY133, prog_1_method_31_code, 4, some .int, 10, 1089, 128, 2) := rfl
theorem mw_134 : mtb[134]? = some (mY134, prog_1_method_32_code, 2, some .int, 10, 1093, 128, 1) := rfl
theorem mw_139 : mtb[139]? = some (mY139, prog_13_method_5_code, 5, some .int, 11, 1236, 135, 2) := rfl
theorem mw_148 : mtb[148]? = some (mY148, prog_13_method_14_code, 3, some .int, 11, 1245, 135, 0) := rfl
theorem mw_149 : mtb[149]? = some (mY149, prog_13_method_15_code, 1, some .int, 11, 1288, 135, 0) := rfl
theorem mw_151 : mtb[151]? = some (mY151, prog_13_method_17_code, 3, some .int, 11, 1292, 135, 2) := rfl
theorem mw_152 : mtb[152]? = some (mY152, prog_13_method_18_code, 3, some .int, 11, 1300, 135, 2) := rfl
theorem mw_153 : mtb[153]? = some (mY153, prog_13_method_19_code, 2, some .int, 11, 1304, 135, 1) := rfl
theorem mw_161 : mtb[161]? = some (mY161, prog_13_method_27_code, 2, some .int, 11, 1308, 135, 1) := rfl
theorem mw_166 : mtb[166]? = some (mY166, prog_13_method_32_code, 2, some .int, 11, 1312, 135, 0) := rfl
theorem mw_167 : mtb[167]? = some (mY167, prog_13_method_33_code, 2, some .int, 11, 1350, 135, 1) := rfl
theorem mw_168 : mtb[168]? = some (mY168, prog_13_method_34_code, 3, some .int, 11, 1358, 135, 2) := rfl
theorem mw_170 : mtb[170]? = some (mY170, prog_13_method_36_code, 5, some .int, 11, 1362, 135, 2) := rfl
theorem mw_171 : mtb[171]? = some (mY171, prog_13_method_37_code, 4, some .long, 11, 1370, 135, 3) := rfl
theorem mw_172 : mtb[172]? = some (mY172, prog_13_method_38_code, 6, some .int, 11, 1376, 135, 2) := rfl
theorem mw_173 : mtb[173]? = some (mY173, prog_13_method_39_code, 3, some .int, 11, 1384, 135, 1) := rfl
theorem mw_175 : mtb[175]? = some (mY175, prog_13_method_41_code, 5, some .int, 11, 1388, 135, 2) := rfl
theorem mw_179 : mtb[179]? = some (mY179, prog_13_method_45_code, 7, some .int, 11, 1396, 135, 1) := rfl
theorem mw_180 : mtb[180]? = some (mY180, prog_13_method_46_code, 8, some .long, 11, 1410, 135, 1) := rfl
theorem mw_181 : mtb[181]? = some (mY181, prog_13_method_47_code, 6, some .int, 11, 1415, 135, 2) := rfl
theorem mw_183 : mtb[183]? = some (mY183, prog_13_method_49_code, 6, some .long, 11, 1419, 135, 3) := rfl
theorem mw_186 : mtb[186]? = some (mY186, prog_13_method_52_code, 7, some .int, 11, 1427, 135, 3) := rfl
theorem mw_189 : mtb[189]? = some (mY189, prog_13_method_55_code, 5, some .int, 11, 1439, 135, 3) := rfl
theorem mw_192 : mtb[192]? = some (mY192, prog_13_method_58_code, 4, some .int, 11, 1451, 135, 1) := rfl
theorem mw_193 : mtb[193]? = some (mY193, prog_13_method_59_code, 4, some .int, 11, 1464, 135, 1) := rfl
theorem mw_194 : mtb[194]? = some (mY194, prog_13_method_60_code, 4, some .int, 11, 1468, 135, 1) := rfl
theorem mw_197 : mtb[197]? = some (mY197, prog_13_method_63_code, 7, some .int, 11, 1474, 135, 2) := rfl
theorem mw_205 : mtb[205]? = some (mY205, prog_13_method_71_code, 6, some .int, 11, 1487, 135, 3) := rfl
theorem mw_206 : mtb[206]? = some (mY206, prog_13_method_72_code, 5, some .int, 11, 1511, 135, 3) := rfl
theorem mw_207 : mtb[207]? = some (mY207, prog_13_method_73_code, 5, some .int, 11, 1523, 135, 2) := rfl
theorem mw_208 : mtb[208]? = some (mY208, prog_13_method_74_code, 6, some .int, 11, 1527, 135, 1) := rfl
section LOP
variable {L : Nat} {xs : Nat → Int32} {nm t : Nat} {hp hp1 hp2 : List mE} {c w c1 w1 c2 w2 f g : Nat} {fs gs : List Value}
theorem lop_0 {v : Int32} (hL : L ≤ 256) (hn : 4 * t + 4 ≤ L) (h0 : 0 < hp.length) (hnm : nm < hp.length) (hx0 : hp[0]? = some (.inr (10, fs))) (hm0 : hp1[nm]? = some (.inr (11, gs))) (hx : exec f 30 104 0 (lv_args 0 (.ref 0 :: [.int (xs (4 * t + 1)), .long (lfd (xs (4 * t + 2)) (xs (4 * t + 3)))])) [] hp 0 0 = some (some (.int v), hp1, c1, w1)) (hm : exec g 30 139 0 (lv_args 0 (.ref nm :: [.int (xs (4 * t + 1)), .long (lfd (xs (4 * t + 2)) (xs (4 * t + 3)))])) [] hp1 0 0 = some (some (.int v), hp2, c2, w2)) (hc : c + c1 + c2 ≤ room_1.cells) (hw : w + w1 + w2 ≤ room_1.slots)
    (k : LW L xs nm (t + 1) 18 [] hp2 (c + c1 + c2) (w + w1 + w2)) : LW L xs nm t 164 [] hp c w := by
  refine LW.ld dL_164 rfl ?_
  refine LW.arg (j := 1) dL_165 dL_166 dL_167 dL_168 dL_169 (by omega) hn hL ?_
  refine LW.arg (j := 2) dL_170 dL_171 dL_172 dL_173 dL_174 (by omega) hn hL ?_
  refine LW.pure dL_175 rfl ?_
  refine LW.pure dL_176 rfl ?_
  refine LW.pure dL_178 rfl ?_
  refine LW.arg (j := 3) dL_179 dL_180 dL_181 dL_182 dL_183 (by omega) hn hL ?_
  refine LW.pure dL_184 rfl ?_
  refine LW.con dL_185 ?_
  refine LW.pure dL_188 rfl ?_
  refine LW.pure dL_189 rfl ?_
  refine LW.call (as := .ref 0 :: [.int (xs (4 * t + 1)), .long (lfd (xs (4 * t + 2)) (xs (4 * t + 3)))]) (rr := []) dL_190 (List.mem_of_getElem? (i := 0) (rfl : llk[0]? = some (15, (104, 374, 375, 376)))) (mw_104) rfl rfl hx (mrcv_of hx0) (Nat.le_of_ble_eq_true rfl) rfl (by omega) hnm (Nat.le_of_ble_eq_true rfl) (by omega) (by omega) (fun hl1 => ?_)
  refine LW.ld dL_193 rfl ?_
  refine LW.arg (j := 1) dL_194 dL_195 dL_196 dL_197 dL_198 (by omega) hn hL ?_
  refine LW.arg (j := 2) dL_199 dL_200 dL_201 dL_202 dL_203 (by omega) hn hL ?_
  refine LW.pure dL_204 rfl ?_
  refine LW.pure dL_205 rfl ?_
  refine LW.pure dL_207 rfl ?_
  refine LW.arg (j := 3) dL_208 dL_209 dL_210 dL_211 dL_212 (by omega) hn hL ?_
  refine LW.pure dL_213 rfl ?_
  refine LW.con dL_214 ?_
  refine LW.pure dL_217 rfl ?_
  refine LW.pure dL_218 rfl ?_
  refine LW.call (as := .ref nm :: [.int (xs (4 * t + 1)), .long (lfd (xs (4 * t + 2)) (xs (4 * t + 3)))]) (rr := [.int v]) dL_219 (List.mem_of_getElem? (i := 1) (rfl : llk[1]? = some (19, (139, 1233, 1234, 1235)))) (mw_139) rfl rfl hm (mrcv_of hm0) (Nat.le_of_ble_eq_true rfl) rfl (by omega) (by omega) (Nat.le_of_ble_eq_true rfl) (by omega) (by omega) (fun hl2 => ?_)
  refine LW.jmp (pc' := 1054) (st' := []) dL_222 (by show mif 222 832 (decide (v = v)) [] = _; rw [decide_eq_true (rfl : v = v)]; rfl) ?_
  exact LW.next k
theorem lop_1 {v : Int32} (hL : L ≤ 256) (hn : 4 * t + 4 ≤ L) (h0 : 0 < hp.length) (hnm : nm < hp.length) (hx0 : hp[0]? = some (.inr (10, fs))) (hm0 : hp1[nm]? = some (.inr (11, gs))) (hx : exec f 30 105 0 (lv_args 0 (.ref 0 :: [])) [] hp 0 0 = some (some (.int v), hp1, c1, w1)) (hm : exec g 30 148 0 (lv_args 0 (.ref nm :: [])) [] hp1 0 0 = some (some (.int v), hp2, c2, w2)) (hc : c + c1 + c2 ≤ room_1.cells) (hw : w + w1 + w2 ≤ room_1.slots)
    (k : LW L xs nm (t + 1) 18 [] hp2 (c + c1 + c2) (w + w1 + w2)) : LW L xs nm t 227 [] hp c w := by
  refine LW.ld dL_227 rfl ?_
  refine LW.call (as := .ref 0 :: []) (rr := []) dL_228 (List.mem_of_getElem? (i := 2) (rfl : llk[2]? = some (20, (105, 383, 384, 385)))) (mw_105) rfl rfl hx (mrcv_of hx0) (Nat.le_of_ble_eq_true rfl) rfl (by omega) hnm (Nat.le_of_ble_eq_true rfl) (by omega) (by omega) (fun hl1 => ?_)
  refine LW.ld dL_231 rfl ?_
  refine LW.call (as := .ref nm :: []) (rr := [.int v]) dL_232 (List.mem_of_getElem? (i := 3) (rfl : llk[3]? = some (24, (148, 1242, 1243, 1244)))) (mw_148) rfl rfl hm (mrcv_of hm0) (Nat.le_of_ble_eq_true rfl) rfl (by omega) (by omega) (Nat.le_of_ble_eq_true rfl) (by omega) (by omega) (fun hl2 => ?_)
  refine LW.jmp (pc' := 1054) (st' := []) dL_235 (by show mif 235 819 (decide (v = v)) [] = _; rw [decide_eq_true (rfl : v = v)]; rfl) ?_
  exact LW.next k
theorem lop_2 {v : Int32} (hL : L ≤ 256) (hn : 4 * t + 4 ≤ L) (h0 : 0 < hp.length) (hnm : nm < hp.length) (hx0 : hp[0]? = some (.inr (10, fs))) (hm0 : hp1[nm]? = some (.inr (11, gs))) (hx : exec f 30 107 0 (lv_args 0 (.ref 0 :: [])) [] hp 0 0 = some (some (.int v), hp1, c1, w1)) (hm : exec g 30 149 0 (lv_args 0 (.ref nm :: [])) [] hp1 0 0 = some (some (.int v), hp2, c2, w2)) (hc : c + c1 + c2 ≤ room_1.cells) (hw : w + w1 + w2 ≤ room_1.slots)
    (k : LW L xs nm (t + 1) 18 [] hp2 (c + c1 + c2) (w + w1 + w2)) : LW L xs nm t 240 [] hp c w := by
  refine LW.ld dL_240 rfl ?_
  refine LW.call (as := .ref 0 :: []) (rr := []) dL_241 (List.mem_of_getElem? (i := 4) (rfl : llk[4]? = some (25, (107, 510, 511, 512)))) (mw_107) rfl rfl hx (mrcv_of hx0) (Nat.le_of_ble_eq_true rfl) rfl (by omega) hnm (Nat.le_of_ble_eq_true rfl) (by omega) (by omega) (fun hl1 => ?_)
  refine LW.ld dL_244 rfl ?_
  refine LW.call (as := .ref nm :: []) (rr := [.int v]) dL_245 (List.mem_of_getElem? (i := 5) (rfl : llk[5]? = some (28, (149, 1285, 1286, 1287)))) (mw_149) rfl rfl hm (mrcv_of hm0) (Nat.le_of_ble_eq_true rfl) rfl (by omega) (by omega) (Nat.le_of_ble_eq_true rfl) (by omega) (by omega) (fun hl2 => ?_)
  refine LW.jmp (pc' := 1054) (st' := []) dL_248 (by show mif 248 806 (decide (v = v)) [] = _; rw [decide_eq_true (rfl : v = v)]; rfl) ?_
  exact LW.next k
theorem lop_3 {v : Int32} (hL : L ≤ 256) (hn : 4 * t + 4 ≤ L) (h0 : 0 < hp.length) (hnm : nm < hp.length) (hx0 : hp[0]? = some (.inr (10, fs))) (hm0 : hp1[nm]? = some (.inr (11, gs))) (hx : exec f 30 108 0 (lv_args 0 (.ref 0 :: [.int (xs (4 * t + 1)), .int (xs (4 * t + 2))])) [] hp 0 0 = some (some (.int v), hp1, c1, w1)) (hm : exec g 30 151 0 (lv_args 0 (.ref nm :: [.int (xs (4 * t + 1)), .int (xs (4 * t + 2))])) [] hp1 0 0 = some (some (.int v), hp2, c2, w2)) (hc : c + c1 + c2 ≤ room_1.cells) (hw : w + w1 + w2 ≤ room_1.slots)
    (k : LW L xs nm (t + 1) 18 [] hp2 (c + c1 + c2) (w + w1 + w2)) : LW L xs nm t 253 [] hp c w := by
  refine LW.ld dL_253 rfl ?_
  refine LW.arg (j := 1) dL_254 dL_255 dL_256 dL_257 dL_258 (by omega) hn hL ?_
  refine LW.arg (j := 2) dL_259 dL_260 dL_261 dL_262 dL_263 (by omega) hn hL ?_
  refine LW.call (as := .ref 0 :: [.int (xs (4 * t + 1)), .int (xs (4 * t + 2))]) (rr := []) dL_264 (List.mem_of_getElem? (i := 6) (rfl : llk[6]? = some (29, (108, 514, 515, 516)))) (mw_108) rfl rfl hx (mrcv_of hx0) (Nat.le_of_ble_eq_true rfl) rfl (by omega) hnm (Nat.le_of_ble_eq_true rfl) (by omega) (by omega) (fun hl1 => ?_)
  refine LW.ld dL_267 rfl ?_
  refine LW.arg (j := 1) dL_268 dL_269 dL_270 dL_271 dL_272 (by omega) hn hL ?_
  refine LW.arg (j := 2) dL_273 dL_274 dL_275 dL_276 dL_277 (by omega) hn hL ?_
  refine LW.call (as := .ref nm :: [.int (xs (4 * t + 1)), .int (xs (4 * t + 2))]) (rr := [.int v]) dL_278 (List.mem_of_getElem? (i := 7) (rfl : llk[7]? = some (33, (151, 1289, 1290, 1291)))) (mw_151) rfl rfl hm (mrcv_of hm0) (Nat.le_of_ble_eq_true rfl) rfl (by omega) (by omega) (Nat.le_of_ble_eq_true rfl) (by omega) (by omega) (fun hl2 => ?_)
  refine LW.jmp (pc' := 1054) (st' := []) dL_281 (by show mif 281 773 (decide (v = v)) [] = _; rw [decide_eq_true (rfl : v = v)]; rfl) ?_
  exact LW.next k
theorem lop_4 {v : Int32} (hL : L ≤ 256) (hn : 4 * t + 4 ≤ L) (h0 : 0 < hp.length) (hnm : nm < hp.length) (hx0 : hp[0]? = some (.inr (10, fs))) (hm0 : hp1[nm]? = some (.inr (11, gs))) (hx : exec f 30 109 0 (lv_args 0 (.ref 0 :: [.int (xs (4 * t + 1)), .int (xs (4 * t + 2))])) [] hp 0 0 = some (some (.int v), hp1, c1, w1)) (hm : exec g 30 152 0 (lv_args 0 (.ref nm :: [.int (xs (4 * t + 1)), .int (xs (4 * t + 2))])) [] hp1 0 0 = some (some (.int v), hp2, c2, w2)) (hc : c + c1 + c2 ≤ room_1.cells) (hw : w + w1 + w2 ≤ room_1.slots)
    (k : LW L xs nm (t + 1) 18 [] hp2 (c + c1 + c2) (w + w1 + w2)) : LW L xs nm t 286 [] hp c w := by
  refine LW.ld dL_286 rfl ?_
  refine LW.arg (j := 1) dL_287 dL_288 dL_289 dL_290 dL_291 (by omega) hn hL ?_
  refine LW.arg (j := 2) dL_292 dL_293 dL_294 dL_295 dL_296 (by omega) hn hL ?_
  refine LW.call (as := .ref 0 :: [.int (xs (4 * t + 1)), .int (xs (4 * t + 2))]) (rr := []) dL_297 (List.mem_of_getElem? (i := 8) (rfl : llk[8]? = some (34, (109, 522, 523, 524)))) (mw_109) rfl rfl hx (mrcv_of hx0) (Nat.le_of_ble_eq_true rfl) rfl (by omega) hnm (Nat.le_of_ble_eq_true rfl) (by omega) (by omega) (fun hl1 => ?_)
  refine LW.ld dL_300 rfl ?_
  refine LW.arg (j := 1) dL_301 dL_302 dL_303 dL_304 dL_305 (by omega) hn hL ?_
  refine LW.arg (j := 2) dL_306 dL_307 dL_308 dL_309 dL_310 (by omega) hn hL ?_
  refine LW.call (as := .ref nm :: [.int (xs (4 * t + 1)), .int (xs (4 * t + 2))]) (rr := [.int v]) dL_311 (List.mem_of_getElem? (i := 9) (rfl : llk[9]? = some (37, (152, 1297, 1298, 1299)))) (mw_152) rfl rfl hm (mrcv_of hm0) (Nat.le_of_ble_eq_true rfl) rfl (by omega) (by omega) (Nat.le_of_ble_eq_true rfl) (by omega) (by omega) (fun hl2 => ?_)
  refine LW.jmp (pc' := 1054) (st' := []) dL_314 (by show mif 314 740 (decide (v = v)) [] = _; rw [decide_eq_true (rfl : v = v)]; rfl) ?_
  exact LW.next k
theorem lop_5 {v : Int32} (hL : L ≤ 256) (hn : 4 * t + 4 ≤ L) (h0 : 0 < hp.length) (hnm : nm < hp.length) (hx0 : hp[0]? = some (.inr (10, fs))) (hm0 : hp1[nm]? = some (.inr (11, gs))) (hx : exec f 30 110 0 (lv_args 0 (.ref 0 :: [.int (xs (4 * t + 1))])) [] hp 0 0 = some (some (.int v), hp1, c1, w1)) (hm : exec g 30 153 0 (lv_args 0 (.ref nm :: [.int (xs (4 * t + 1))])) [] hp1 0 0 = some (some (.int v), hp2, c2, w2)) (hc : c + c1 + c2 ≤ room_1.cells) (hw : w + w1 + w2 ≤ room_1.slots)
    (k : LW L xs nm (t + 1) 18 [] hp2 (c + c1 + c2) (w + w1 + w2)) : LW L xs nm t 319 [] hp c w := by
  refine LW.ld dL_319 rfl ?_
  refine LW.arg (j := 1) dL_320 dL_321 dL_322 dL_323 dL_324 (by omega) hn hL ?_
  refine LW.call (as := .ref 0 :: [.int (xs (4 * t + 1))]) (rr := []) dL_325 (List.mem_of_getElem? (i := 10) (rfl : llk[10]? = some (38, (110, 526, 527, 528)))) (mw_110) rfl rfl hx (mrcv_of hx0) (Nat.le_of_ble_eq_true rfl) rfl (by omega) hnm (Nat.le_of_ble_eq_true rfl) (by omega) (by omega) (fun hl1 => ?_)
  refine LW.ld dL_328 rfl ?_
  refine LW.arg (j := 1) dL_329 dL_330 dL_331 dL_332 dL_333 (by omega) hn hL ?_
  refine LW.call (as := .ref nm :: [.int (xs (4 * t + 1))]) (rr := [.int v]) dL_334 (List.mem_of_getElem? (i := 11) (rfl : llk[11]? = some (42, (153, 1301, 1302, 1303)))) (mw_153) rfl rfl hm (mrcv_of hm0) (Nat.le_of_ble_eq_true rfl) rfl (by omega) (by omega) (Nat.le_of_ble_eq_true rfl) (by omega) (by omega) (fun hl2 => ?_)
  refine LW.jmp (pc' := 1054) (st' := []) dL_337 (by show mif 337 717 (decide (v = v)) [] = _; rw [decide_eq_true (rfl : v = v)]; rfl) ?_
  exact LW.next k
theorem lop_6 {v : Int32} (hL : L ≤ 256) (hn : 4 * t + 4 ≤ L) (h0 : 0 < hp.length) (hnm : nm < hp.length) (hx0 : hp[0]? = some (.inr (10, fs))) (hm0 : hp1[nm]? = some (.inr (11, gs))) (hx : exec f 30 111 0 (lv_args 0 (.ref 0 :: [.int (xs (4 * t + 1))])) [] hp 0 0 = some (some (.int v), hp1, c1, w1)) (hm : exec g 30 161 0 (lv_args 0 (.ref nm :: [.int (xs (4 * t + 1))])) [] hp1 0 0 = some (some (.int v), hp2, c2, w2)) (hc : c + c1 + c2 ≤ room_1.cells) (hw : w + w1 + w2 ≤ room_1.slots)
    (k : LW L xs nm (t + 1) 18 [] hp2 (c + c1 + c2) (w + w1 + w2)) : LW L xs nm t 342 [] hp c w := by
  refine LW.ld dL_342 rfl ?_
  refine LW.arg (j := 1) dL_343 dL_344 dL_345 dL_346 dL_347 (by omega) hn hL ?_
  refine LW.call (as := .ref 0 :: [.int (xs (4 * t + 1))]) (rr := []) dL_348 (List.mem_of_getElem? (i := 12) (rfl : llk[12]? = some (43, (111, 530, 531, 532)))) (mw_111) rfl rfl hx (mrcv_of hx0) (Nat.le_of_ble_eq_true rfl) rfl (by omega) hnm (Nat.le_of_ble_eq_true rfl) (by omega) (by omega) (fun hl1 => ?_)
  refine LW.ld dL_351 rfl ?_
  refine LW.arg (j := 1) dL_352 dL_353 dL_354 dL_355 dL_356 (by omega) hn hL ?_
  refine LW.call (as := .ref nm :: [.int (xs (4 * t + 1))]) (rr := [.int v]) dL_357 (List.mem_of_getElem? (i := 13) (rfl : llk[13]? = some (46, (161, 1305, 1306, 1307)))) (mw_161) rfl rfl hm (mrcv_of hm0) (Nat.le_of_ble_eq_true rfl) rfl (by omega) (by omega) (Nat.le_of_ble_eq_true rfl) (by omega) (by omega) (fun hl2 => ?_)
  refine LW.jmp (pc' := 1054) (st' := []) dL_360 (by show mif 360 694 (decide (v = v)) [] = _; rw [decide_eq_true (rfl : v = v)]; rfl) ?_
  exact LW.next k
theorem lop_7 {v : Int32} (hL : L ≤ 256) (hn : 4 * t + 4 ≤ L) (h0 : 0 < hp.length) (hnm : nm < hp.length) (hx0 : hp[0]? = some (.inr (10, fs))) (hm0 : hp1[nm]? = some (.inr (11, gs))) (hx : exec f 30 112 0 (lv_args 0 (.ref 0 :: [])) [] hp 0 0 = some (some (.int v), hp1, c1, w1)) (hm : exec g 30 166 0 (lv_args 0 (.ref nm :: [])) [] hp1 0 0 = some (some (.int v), hp2, c2, w2)) (hc : c + c1 + c2 ≤ room_1.cells) (hw : w + w1 + w2 ≤ room_1.slots)
    (k : LW L xs nm (t + 1) 18 [] hp2 (c + c1 + c2) (w + w1 + w2)) : LW L xs nm t 365 [] hp c w := by
  refine LW.ld dL_365 rfl ?_
  refine LW.call (as := .ref 0 :: []) (rr := []) dL_366 (List.mem_of_getElem? (i := 14) (rfl : llk[14]? = some (47, (112, 534, 535, 536)))) (mw_112) rfl rfl hx (mrcv_of hx0) (Nat.le_of_ble_eq_true rfl) rfl (by omega) hnm (Nat.le_of_ble_eq_true rfl) (by omega) (by omega) (fun hl1 => ?_)
  refine LW.ld dL_369 rfl ?_
  refine LW.call (as := .ref nm :: []) (rr := [.int v]) dL_370 (List.mem_of_getElem? (i := 15) (rfl : llk[15]? = some (50, (166, 1309, 1310, 1311)))) (mw_166) rfl rfl hm (mrcv_of hm0) (Nat.le_of_ble_eq_true rfl) rfl (by omega) (by omega) (Nat.le_of_ble_eq_true rfl) (by omega) (by omega) (fun hl2 => ?_)
  refine LW.jmp (pc' := 1054) (st' := []) dL_373 (by show mif 373 681 (decide (v = v)) [] = _; rw [decide_eq_true (rfl : v = v)]; rfl) ?_
  exact LW.next k
theorem lop_8 {v : Int32} (hL : L ≤ 256) (hn : 4 * t + 4 ≤ L) (h0 : 0 < hp.length) (hnm : nm < hp.length) (hx0 : hp[0]? = some (.inr (10, fs))) (hm0 : hp1[nm]? = some (.inr (11, gs))) (hx : exec f 30 113 0 (lv_args 0 (.ref 0 :: [.int (xs (4 * t + 1))])) [] hp 0 0 = some (some (.int v), hp1, c1, w1)) (hm : exec g 30 167 0 (lv_args 0 (.ref nm :: [.int (xs (4 * t + 1))])) [] hp1 0 0 = some (some (.int v), hp2, c2, w2)) (hc : c + c1 + c2 ≤ room_1.cells) (hw : w + w1 + w2 ≤ room_1.slots)
    (k : LW L xs nm (t + 1) 18 [] hp2 (c + c1 + c2) (w + w1 + w2)) : LW L xs nm t 378 [] hp c w := by
  refine LW.ld dL_378 rfl ?_
  refine LW.arg (j := 1) dL_379 dL_380 dL_381 dL_382 dL_383 (by omega) hn hL ?_
  refine LW.call (as := .ref 0 :: [.int (xs (4 * t + 1))]) (rr := []) dL_384 (List.mem_of_getElem? (i := 16) (rfl : llk[16]? = some (51, (113, 574, 575, 576)))) (mw_113) rfl rfl hx (mrcv_of hx0) (Nat.le_of_ble_eq_true rfl) rfl (by omega) hnm (Nat.le_of_ble_eq_true rfl) (by omega) (by omega) (fun hl1 => ?_)
  refine LW.ld dL_387 rfl ?_
  refine LW.arg (j := 1) dL_388 dL_389 dL_390 dL_391 dL_392 (by omega) hn hL ?_
  refine LW.call (as := .ref nm :: [.int (xs (4 * t + 1))]) (rr := [.int v]) dL_393 (List.mem_of_getElem? (i := 17) (rfl : llk[17]? = some (54, (167, 1347, 1348, 1349)))) (mw_167) rfl rfl hm (mrcv_of hm0) (Nat.le_of_ble_eq_true rfl) rfl (by omega) (by omega) (Nat.le_of_ble_eq_true rfl) (by omega) (by omega) (fun hl2 => ?_)
  refine LW.jmp (pc' := 1054) (st' := []) dL_396 (by show mif 396 658 (decide (v = v)) [] = _; rw [decide_eq_true (rfl : v = v)]; rfl) ?_
  exact LW.next k
theorem lop_9 {v : Int32} (hL : L ≤ 256) (hn : 4 * t + 4 ≤ L) (h0 : 0 < hp.length) (hnm : nm < hp.length) (hx0 : hp[0]? = some (.inr (10, fs))) (hm0 : hp1[nm]? = some (.inr (11, gs))) (hx : exec f 30 114 0 (lv_args 0 (.ref 0 :: [.int (xs (4 * t + 1)), .int (xs (4 * t + 2))])) [] hp 0 0 = some (some (.int v), hp1, c1, w1)) (hm : exec g 30 168 0 (lv_args 0 (.ref nm :: [.int (xs (4 * t + 1)), .int (xs (4 * t + 2))])) [] hp1 0 0 = some (some (.int v), hp2, c2, w2)) (hc : c + c1 + c2 ≤ room_1.cells) (hw : w + w1 + w2 ≤ room_1.slots)
    (k : LW L xs nm (t + 1) 18 [] hp2 (c + c1 + c2) (w + w1 + w2)) : LW L xs nm t 401 [] hp c w := by
  refine LW.ld dL_401 rfl ?_
  refine LW.arg (j := 1) dL_402 dL_403 dL_404 dL_405 dL_406 (by omega) hn hL ?_
  refine LW.arg (j := 2) dL_407 dL_408 dL_409 dL_410 dL_411 (by omega) hn hL ?_
  refine LW.call (as := .ref 0 :: [.int (xs (4 * t + 1)), .int (xs (4 * t + 2))]) (rr := []) dL_412 (List.mem_of_getElem? (i := 18) (rfl : llk[18]? = some (55, (114, 582, 583, 584)))) (mw_114) rfl rfl hx (mrcv_of hx0) (Nat.le_of_ble_eq_true rfl) rfl (by omega) hnm (Nat.le_of_ble_eq_true rfl) (by omega) (by omega) (fun hl1 => ?_)
  refine LW.ld dL_415 rfl ?_
  refine LW.arg (j := 1) dL_416 dL_417 dL_418 dL_419 dL_420 (by omega) hn hL ?_
  refine LW.arg (j := 2) dL_421 dL_422 dL_423 dL_424 dL_425 (by omega) hn hL ?_
  refine LW.call (as := .ref nm :: [.int (xs (4 * t + 1)), .int (xs (4 * t + 2))]) (rr := [.int v]) dL_426 (List.mem_of_getElem? (i := 19) (rfl : llk[19]? = some (58, (168, 1355, 1356, 1357)))) (mw_168) rfl rfl hm (mrcv_of hm0) (Nat.le_of_ble_eq_true rfl) rfl (by omega) (by omega) (Nat.le_of_ble_eq_true rfl) (by omega) (by omega) (fun hl2 => ?_)
  refine LW.jmp (pc' := 1054) (st' := []) dL_429 (by show mif 429 625 (decide (v = v)) [] = _; rw [decide_eq_true (rfl : v = v)]; rfl) ?_
  exact LW.next k
theorem lop_10 {v : Int32} (hL : L ≤ 256) (hn : 4 * t + 4 ≤ L) (h0 : 0 < hp.length) (hnm : nm < hp.length) (hx0 : hp[0]? = some (.inr (10, fs))) (hm0 : hp1[nm]? = some (.inr (11, gs))) (hx : exec f 30 115 0 (lv_args 0 (.ref 0 :: [.int (xs (4 * t + 1)), .int (xs (4 * t + 2))])) [] hp 0 0 = some (some (.int v), hp1, c1, w1)) (hm : exec g 30 170 0 (lv_args 0 (.ref nm :: [.int (xs (4 * t + 1)), .int (xs (4 * t + 2))])) [] hp1 0 0 = some (some (.int v), hp2, c2, w2)) (hc : c + c1 + c2 ≤ room_1.cells) (hw : w + w1 + w2 ≤ room_1.slots)
    (k : LW L xs nm (t + 1) 18 [] hp2 (c + c1 + c2) (w + w1 + w2)) : LW L xs nm t 434 [] hp c w := by
  refine LW.ld dL_434 rfl ?_
  refine LW.arg (j := 1) dL_435 dL_436 dL_437 dL_438 dL_439 (by omega) hn hL ?_
  refine LW.arg (j := 2) dL_440 dL_441 dL_442 dL_443 dL_444 (by omega) hn hL ?_
  refine LW.call (as := .ref 0 :: [.int (xs (4 * t + 1)), .int (xs (4 * t + 2))]) (rr := []) dL_445 (List.mem_of_getElem? (i := 20) (rfl : llk[20]? = some (59, (115, 587, 588, 589)))) (mw_115) rfl rfl hx (mrcv_of hx0) (Nat.le_of_ble_eq_true rfl) rfl (by omega) hnm (Nat.le_of_ble_eq_true rfl) (by omega) (by omega) (fun hl1 => ?_)
  refine LW.ld dL_448 rfl ?_
  refine LW.arg (j := 1) dL_449 dL_450 dL_451 dL_452 dL_453 (by omega) hn hL ?_
  refine LW.arg (j := 2) dL_454 dL_455 dL_456 dL_457 dL_458 (by omega) hn hL ?_
  refine LW.call (as := .ref nm :: [.int (xs (4 * t + 1)), .int (xs (4 * t + 2))]) (rr := [.int v]) dL_459 (List.mem_of_getElem? (i := 21) (rfl : llk[21]? = some (62, (170, 1359, 1360, 1361)))) (mw_170) rfl rfl hm (mrcv_of hm0) (Nat.le_of_ble_eq_true rfl) rfl (by omega) (by omega) (Nat.le_of_ble_eq_true rfl) (by omega) (by omega) (fun hl2 => ?_)
  refine LW.jmp (pc' := 1054) (st' := []) dL_462 (by show mif 462 592 (decide (v = v)) [] = _; rw [decide_eq_true (rfl : v = v)]; rfl) ?_
  exact LW.next k
theorem lop_11 {v : Int64} (hL : L ≤ 256) (hn : 4 * t + 4 ≤ L) (h0 : 0 < hp.length) (hnm : nm < hp.length) (hx0 : hp[0]? = some (.inr (10, fs))) (hm0 : hp1[nm]? = some (.inr (11, gs))) (hx : exec f 30 116 0 (lv_args 0 (.ref 0 :: [.int (xs (4 * t + 1)), .int (xs (4 * t + 2)), .int (xs (4 * t + 3))])) [] hp 0 0 = some (some (.long v), hp1, c1, w1)) (hm : exec g 30 171 0 (lv_args 0 (.ref nm :: [.int (xs (4 * t + 1)), .int (xs (4 * t + 2)), .int (xs (4 * t + 3))])) [] hp1 0 0 = some (some (.long v), hp2, c2, w2)) (hc : c + c1 + c2 ≤ room_1.cells) (hw : w + w1 + w2 ≤ room_1.slots)
    (k : LW L xs nm (t + 1) 18 [] hp2 (c + c1 + c2) (w + w1 + w2)) : LW L xs nm t 467 [] hp c w := by
  refine LW.ld dL_467 rfl ?_
  refine LW.arg (j := 1) dL_468 dL_469 dL_470 dL_471 dL_472 (by omega) hn hL ?_
  refine LW.arg (j := 2) dL_473 dL_474 dL_475 dL_476 dL_477 (by omega) hn hL ?_
  refine LW.arg (j := 3) dL_478 dL_479 dL_480 dL_481 dL_482 (by omega) hn hL ?_
  refine LW.call (as := .ref 0 :: [.int (xs (4 * t + 1)), .int (xs (4 * t + 2)), .int (xs (4 * t + 3))]) (rr := []) dL_483 (List.mem_of_getElem? (i := 22) (rfl : llk[22]? = some (63, (116, 595, 596, 597)))) (mw_116) rfl rfl hx (mrcv_of hx0) (Nat.le_of_ble_eq_true rfl) rfl (by omega) hnm (Nat.le_of_ble_eq_true rfl) (by omega) (by omega) (fun hl1 => ?_)
  refine LW.ld dL_486 rfl ?_
  refine LW.arg (j := 1) dL_487 dL_488 dL_489 dL_490 dL_491 (by omega) hn hL ?_
  refine LW.arg (j := 2) dL_492 dL_493 dL_494 dL_495 dL_496 (by omega) hn hL ?_
  refine LW.arg (j := 3) dL_497 dL_498 dL_499 dL_500 dL_501 (by omega) hn hL ?_
  refine LW.call (as := .ref nm :: [.int (xs (4 * t + 1)), .int (xs (4 * t + 2)), .int (xs (4 * t + 3))]) (rr := [.long v]) dL_502 (List.mem_of_getElem? (i := 23) (rfl : llk[23]? = some (67, (171, 1367, 1368, 1369)))) (mw_171) rfl rfl hm (mrcv_of hm0) (Nat.le_of_ble_eq_true rfl) rfl (by omega) (by omega) (Nat.le_of_ble_eq_true rfl) (by omega) (by omega) (fun hl2 => ?_)
  refine LW.pure dL_505 rfl ?_
  refine LW.jmp (pc' := 1054) (st' := []) dL_506 (by show mif 506 548 (decide (lg_cmp v v = 0)) [] = _; rw [decide_eq_true (lcmp_eq v)]; rfl) ?_
  exact LW.next k
theorem lop_12 {v : Int32} (hL : L ≤ 256) (hn : 4 * t + 4 ≤ L) (h0 : 0 < hp.length) (hnm : nm < hp.length) (hx0 : hp[0]? = some (.inr (10, fs))) (hm0 : hp1[nm]? = some (.inr (11, gs))) (hx : exec f 30 117 0 (lv_args 0 (.ref 0 :: [.int (xs (4 * t + 1)), .int (xs (4 * t + 2))])) [] hp 0 0 = some (some (.int v), hp1, c1, w1)) (hm : exec g 30 172 0 (lv_args 0 (.ref nm :: [.int (xs (4 * t + 1)), .int (xs (4 * t + 2))])) [] hp1 0 0 = some (some (.int v), hp2, c2, w2)) (hc : c + c1 + c2 ≤ room_1.cells) (hw : w + w1 + w2 ≤ room_1.slots)
    (k : LW L xs nm (t + 1) 18 [] hp2 (c + c1 + c2) (w + w1 + w2)) : LW L xs nm t 511 [] hp c w := by
  refine LW.ld dL_511 rfl ?_
  refine LW.arg (j := 1) dL_512 dL_513 dL_514 dL_515 dL_516 (by omega) hn hL ?_
  refine LW.arg (j := 2) dL_517 dL_518 dL_519 dL_520 dL_521 (by omega) hn hL ?_
  refine LW.call (as := .ref 0 :: [.int (xs (4 * t + 1)), .int (xs (4 * t + 2))]) (rr := []) dL_522 (List.mem_of_getElem? (i := 24) (rfl : llk[24]? = some (68, (117, 618, 619, 620)))) (mw_117) rfl rfl hx (mrcv_of hx0) (Nat.le_of_ble_eq_true rfl) rfl (by omega) hnm (Nat.le_of_ble_eq_true rfl) (by omega) (by omega) (fun hl1 => ?_)
  refine LW.ld dL_525 rfl ?_
  refine LW.arg (j := 1) dL_526 dL_527 dL_528 dL_529 dL_530 (by omega) hn hL ?_
  refine LW.arg (j := 2) dL_531 dL_532 dL_533 dL_534 dL_535 (by omega) hn hL ?_
  refine LW.call (as := .ref nm :: [.int (xs (4 * t + 1)), .int (xs (4 * t + 2))]) (rr := [.int v]) dL_536 (List.mem_of_getElem? (i := 25) (rfl : llk[25]? = some (71, (172, 1373, 1374, 1375)))) (mw_172) rfl rfl hm (mrcv_of hm0) (Nat.le_of_ble_eq_true rfl) rfl (by omega) (by omega) (Nat.le_of_ble_eq_true rfl) (by omega) (by omega) (fun hl2 => ?_)
  refine LW.jmp (pc' := 1054) (st' := []) dL_539 (by show mif 539 515 (decide (v = v)) [] = _; rw [decide_eq_true (rfl : v = v)]; rfl) ?_
  exact LW.next k
theorem lop_13 {v : Int32} (hL : L ≤ 256) (hn : 4 * t + 4 ≤ L) (h0 : 0 < hp.length) (hnm : nm < hp.length) (hx0 : hp[0]? = some (.inr (10, fs))) (hm0 : hp1[nm]? = some (.inr (11, gs))) (hx : exec f 30 118 0 (lv_args 0 (.ref 0 :: [.int (xs (4 * t + 1))])) [] hp 0 0 = some (some (.int v), hp1, c1, w1)) (hm : exec g 30 173 0 (lv_args 0 (.ref nm :: [.int (xs (4 * t + 1))])) [] hp1 0 0 = some (some (.int v), hp2, c2, w2)) (hc : c + c1 + c2 ≤ room_1.cells) (hw : w + w1 + w2 ≤ room_1.slots)
    (k : LW L xs nm (t + 1) 18 [] hp2 (c + c1 + c2) (w + w1 + w2)) : LW L xs nm t 544 [] hp c w := by
  refine LW.ld dL_544 rfl ?_
  refine LW.arg (j := 1) dL_545 dL_546 dL_547 dL_548 dL_549 (by omega) hn hL ?_
  refine LW.call (as := .ref 0 :: [.int (xs (4 * t + 1))]) (rr := []) dL_550 (List.mem_of_getElem? (i := 26) (rfl : llk[26]? = some (72, (118, 639, 640, 641)))) (mw_118) rfl rfl hx (mrcv_of hx0) (Nat.le_of_ble_eq_true rfl) rfl (by omega) hnm (Nat.le_of_ble_eq_true rfl) (by omega) (by omega) (fun hl1 => ?_)
  refine LW.ld dL_553 rfl ?_
  refine LW.arg (j := 1) dL_554 dL_555 dL_556 dL_557 dL_558 (by omega) hn hL ?_
  refine LW.call (as := .ref nm :: [.int (xs (4 * t + 1))]) (rr := [.int v]) dL_559 (List.mem_of_getElem? (i := 27) (rfl : llk[27]? = some (75, (173, 1381, 1382, 1383)))) (mw_173) rfl rfl hm (mrcv_of hm0) (Nat.le_of_ble_eq_true rfl) rfl (by omega) (by omega) (Nat.le_of_ble_eq_true rfl) (by omega) (by omega) (fun hl2 => ?_)
  refine LW.jmp (pc' := 1054) (st' := []) dL_562 (by show mif 562 492 (decide (v = v)) [] = _; rw [decide_eq_true (rfl : v = v)]; rfl) ?_
  exact LW.next k
theorem lop_14 {v : Int32} (hL : L ≤ 256) (hn : 4 * t + 4 ≤ L) (h0 : 0 < hp.length) (hnm : nm < hp.length) (hx0 : hp[0]? = some (.inr (10, fs))) (hm0 : hp1[nm]? = some (.inr (11, gs))) (hx : exec f 30 119 0 (lv_args 0 (.ref 0 :: [.int (xs (4 * t + 1)), .int (xs (4 * t + 2))])) [] hp 0 0 = some (some (.int v), hp1, c1, w1)) (hm : exec g 30 175 0 (lv_args 0 (.ref nm :: [.int (xs (4 * t + 1)), .int (xs (4 * t + 2))])) [] hp1 0 0 = some (some (.int v), hp2, c2, w2)) (hc : c + c1 + c2 ≤ room_1.cells) (hw : w + w1 + w2 ≤ room_1.slots)
    (k : LW L xs nm (t + 1) 18 [] hp2 (c + c1 + c2) (w + w1 + w2)) : LW L xs nm t 567 [] hp c w := by
  refine LW.ld dL_567 rfl ?_
  refine LW.arg (j := 1) dL_568 dL_569 dL_570 dL_571 dL_572 (by omega) hn hL ?_
  refine LW.arg (j := 2) dL_573 dL_574 dL_575 dL_576 dL_577 (by omega) hn hL ?_
  refine LW.call (as := .ref 0 :: [.int (xs (4 * t + 1)), .int (xs (4 * t + 2))]) (rr := []) dL_578 (List.mem_of_getElem? (i := 28) (rfl : llk[28]? = some (76, (119, 647, 648, 649)))) (mw_119) rfl rfl hx (mrcv_of hx0) (Nat.le_of_ble_eq_true rfl) rfl (by omega) hnm (Nat.le_of_ble_eq_true rfl) (by omega) (by omega) (fun hl1 => ?_)
  refine LW.ld dL_581 rfl ?_
  refine LW.arg (j := 1) dL_582 dL_583 dL_584 dL_585 dL_586 (by omega) hn hL ?_
  refine LW.arg (j := 2) dL_587 dL_588 dL_589 dL_590 dL_591 (by omega) hn hL ?_
  refine LW.call (as := .ref nm :: [.int (xs (4 * t + 1)), .int (xs (4 * t + 2))]) (rr := [.int v]) dL_592 (List.mem_of_getElem? (i := 29) (rfl : llk[29]? = some (79, (175, 1385, 1386, 1387)))) (mw_175) rfl rfl hm (mrcv_of hm0) (Nat.le_of_ble_eq_true rfl) rfl (by omega) (by omega) (Nat.le_of_ble_eq_true rfl) (by omega) (by omega) (fun hl2 => ?_)
  refine LW.jmp (pc' := 1054) (st' := []) dL_595 (by show mif 595 459 (decide (v = v)) [] = _; rw [decide_eq_true (rfl : v = v)]; rfl) ?_
  exact LW.next k
theorem lop_15 {v : Int32} (hL : L ≤ 256) (hn : 4 * t + 4 ≤ L) (h0 : 0 < hp.length) (hnm : nm < hp.length) (hx0 : hp[0]? = some (.inr (10, fs))) (hm0 : hp1[nm]? = some (.inr (11, gs))) (hx : exec f 30 120 0 (lv_args 0 (.ref 0 :: [.int (xs (4 * t + 1))])) [] hp 0 0 = some (some (.int v), hp1, c1, w1)) (hm : exec g 30 179 0 (lv_args 0 (.ref nm :: [.int (xs (4 * t + 1))])) [] hp1 0 0 = some (some (.int v), hp2, c2, w2)) (hc : c + c1 + c2 ≤ room_1.cells) (hw : w + w1 + w2 ≤ room_1.slots)
    (k : LW L xs nm (t + 1) 18 [] hp2 (c + c1 + c2) (w + w1 + w2)) : LW L xs nm t 600 [] hp c w := by
  refine LW.ld dL_600 rfl ?_
  refine LW.arg (j := 1) dL_601 dL_602 dL_603 dL_604 dL_605 (by omega) hn hL ?_
  refine LW.call (as := .ref 0 :: [.int (xs (4 * t + 1))]) (rr := []) dL_606 (List.mem_of_getElem? (i := 30) (rfl : llk[30]? = some (80, (120, 657, 658, 659)))) (mw_120) rfl rfl hx (mrcv_of hx0) (Nat.le_of_ble_eq_true rfl) rfl (by omega) hnm (Nat.le_of_ble_eq_true rfl) (by omega) (by omega) (fun hl1 => ?_)
  refine LW.ld dL_609 rfl ?_
  refine LW.arg (j := 1) dL_610 dL_611 dL_612 dL_613 dL_614 (by omega) hn hL ?_
  refine LW.call (as := .ref nm :: [.int (xs (4 * t + 1))]) (rr := [.int v]) dL_615 (List.mem_of_getElem? (i := 31) (rfl : llk[31]? = some (83, (179, 1393, 1394, 1395)))) (mw_179) rfl rfl hm (mrcv_of hm0) (Nat.le_of_ble_eq_true rfl) rfl (by omega) (by omega) (Nat.le_of_ble_eq_true rfl) (by omega) (by omega) (fun hl2 => ?_)
  refine LW.jmp (pc' := 1054) (st' := []) dL_618 (by show mif 618 436 (decide (v = v)) [] = _; rw [decide_eq_true (rfl : v = v)]; rfl) ?_
  exact LW.next k
theorem lop_16 {v : Int64} (hL : L ≤ 256) (hn : 4 * t + 4 ≤ L) (h0 : 0 < hp.length) (hnm : nm < hp.length) (hx0 : hp[0]? = some (.inr (10, fs))) (hm0 : hp1[nm]? = some (.inr (11, gs))) (hx : exec f 30 121 0 (lv_args 0 (.ref 0 :: [.int (xs (4 * t + 1))])) [] hp 0 0 = some (some (.long v), hp1, c1, w1)) (hm : exec g 30 180 0 (lv_args 0 (.ref nm :: [.int (xs (4 * t + 1))])) [] hp1 0 0 = some (some (.long v), hp2, c2, w2)) (hc : c + c1 + c2 ≤ room_1.cells) (hw : w + w1 + w2 ≤ room_1.slots)
    (k : LW L xs nm (t + 1) 18 [] hp2 (c + c1 + c2) (w + w1 + w2)) : LW L xs nm t 623 [] hp c w := by
  refine LW.ld dL_623 rfl ?_
  refine LW.arg (j := 1) dL_624 dL_625 dL_626 dL_627 dL_628 (by omega) hn hL ?_
  refine LW.call (as := .ref 0 :: [.int (xs (4 * t + 1))]) (rr := []) dL_629 (List.mem_of_getElem? (i := 32) (rfl : llk[32]? = some (84, (121, 670, 671, 672)))) (mw_121) rfl rfl hx (mrcv_of hx0) (Nat.le_of_ble_eq_true rfl) rfl (by omega) hnm (Nat.le_of_ble_eq_true rfl) (by omega) (by omega) (fun hl1 => ?_)
  refine LW.ld dL_632 rfl ?_
  refine LW.arg (j := 1) dL_633 dL_634 dL_635 dL_636 dL_637 (by omega) hn hL ?_
  refine LW.call (as := .ref nm :: [.int (xs (4 * t + 1))]) (rr := [.long v]) dL_638 (List.mem_of_getElem? (i := 33) (rfl : llk[33]? = some (88, (180, 1407, 1408, 1409)))) (mw_180) rfl rfl hm (mrcv_of hm0) (Nat.le_of_ble_eq_true rfl) rfl (by omega) (by omega) (Nat.le_of_ble_eq_true rfl) (by omega) (by omega) (fun hl2 => ?_)
  refine LW.pure dL_641 rfl ?_
  refine LW.jmp (pc' := 1054) (st' := []) dL_642 (by show mif 642 412 (decide (lg_cmp v v = 0)) [] = _; rw [decide_eq_true (lcmp_eq v)]; rfl) ?_
  exact LW.next k
theorem lop_17 {v : Int32} (hL : L ≤ 256) (hn : 4 * t + 4 ≤ L) (h0 : 0 < hp.length) (hnm : nm < hp.length) (hx0 : hp[0]? = some (.inr (10, fs))) (hm0 : hp1[nm]? = some (.inr (11, gs))) (hx : exec f 30 122 0 (lv_args 0 (.ref 0 :: [.int (xs (4 * t + 1)), .int (xs (4 * t + 2))])) [] hp 0 0 = some (some (.int v), hp1, c1, w1)) (hm : exec g 30 181 0 (lv_args 0 (.ref nm :: [.int (xs (4 * t + 1)), .int (xs (4 * t + 2))])) [] hp1 0 0 = some (some (.int v), hp2, c2, w2)) (hc : c + c1 + c2 ≤ room_1.cells) (hw : w + w1 + w2 ≤ room_1.slots)
    (k : LW L xs nm (t + 1) 18 [] hp2 (c + c1 + c2) (w + w1 + w2)) : LW L xs nm t 647 [] hp c w := by
  refine LW.ld dL_647 rfl ?_
  refine LW.arg (j := 1) dL_648 dL_649 dL_650 dL_651 dL_652 (by omega) hn hL ?_
  refine LW.arg (j := 2) dL_653 dL_654 dL_655 dL_656 dL_657 (by omega) hn hL ?_
  refine LW.call (as := .ref 0 :: [.int (xs (4 * t + 1)), .int (xs (4 * t + 2))]) (rr := []) dL_658 (List.mem_of_getElem? (i := 34) (rfl : llk[34]? = some (89, (122, 790, 791, 792)))) (mw_122) rfl rfl hx (mrcv_of hx0) (Nat.le_of_ble_eq_true rfl) rfl (by omega) hnm (Nat.le_of_ble_eq_true rfl) (by omega) (by omega) (fun hl1 => ?_)
  refine LW.ld dL_661 rfl ?_
  refine LW.arg (j := 1) dL_662 dL_663 dL_664 dL_665 dL_666 (by omega) hn hL ?_
  refine LW.arg (j := 2) dL_667 dL_668 dL_669 dL_670 dL_671 (by omega) hn hL ?_
  refine LW.call (as := .ref nm :: [.int (xs (4 * t + 1)), .int (xs (4 * t + 2))]) (rr := [.int v]) dL_672 (List.mem_of_getElem? (i := 35) (rfl : llk[35]? = some (92, (181, 1412, 1413, 1414)))) (mw_181) rfl rfl hm (mrcv_of hm0) (Nat.le_of_ble_eq_true rfl) rfl (by omega) (by omega) (Nat.le_of_ble_eq_true rfl) (by omega) (by omega) (fun hl2 => ?_)
  refine LW.jmp (pc' := 1054) (st' := []) dL_675 (by show mif 675 379 (decide (v = v)) [] = _; rw [decide_eq_true (rfl : v = v)]; rfl) ?_
  exact LW.next k
theorem lop_18 {v : Int64} (hL : L ≤ 256) (hn : 4 * t + 4 ≤ L) (h0 : 0 < hp.length) (hnm : nm < hp.length) (hx0 : hp[0]? = some (.inr (10, fs))) (hm0 : hp1[nm]? = some (.inr (11, gs))) (hx : exec f 30 123 0 (lv_args 0 (.ref 0 :: [.int (xs (4 * t + 1)), .int (xs (4 * t + 2)), .int (xs (4 * t + 3))])) [] hp 0 0 = some (some (.long v), hp1, c1, w1)) (hm : exec g 30 183 0 (lv_args 0 (.ref nm :: [.int (xs (4 * t + 1)), .int (xs (4 * t + 2)), .int (xs (4 * t + 3))])) [] hp1 0 0 = some (some (.long v), hp2, c2, w2)) (hc : c + c1 + c2 ≤ room_1.cells) (hw : w + w1 + w2 ≤ room_1.slots)
    (k : LW L xs nm (t + 1) 18 [] hp2 (c + c1 + c2) (w + w1 + w2)) : LW L xs nm t 680 [] hp c w := by
  refine LW.ld dL_680 rfl ?_
  refine LW.arg (j := 1) dL_681 dL_682 dL_683 dL_684 dL_685 (by omega) hn hL ?_
  refine LW.arg (j := 2) dL_686 dL_687 dL_688 dL_689 dL_690 (by omega) hn hL ?_
  refine LW.arg (j := 3) dL_691 dL_692 dL_693 dL_694 dL_695 (by omega) hn hL ?_
  refine LW.call (as := .ref 0 :: [.int (xs (4 * t + 1)), .int (xs (4 * t + 2)), .int (xs (4 * t + 3))]) (rr := []) dL_696 (List.mem_of_getElem? (i := 36) (rfl : llk[36]? = some (93, (123, 798, 799, 800)))) (mw_123) rfl rfl hx (mrcv_of hx0) (Nat.le_of_ble_eq_true rfl) rfl (by omega) hnm (Nat.le_of_ble_eq_true rfl) (by omega) (by omega) (fun hl1 => ?_)
  refine LW.ld dL_699 rfl ?_
  refine LW.arg (j := 1) dL_700 dL_701 dL_702 dL_703 dL_704 (by omega) hn hL ?_
  refine LW.arg (j := 2) dL_705 dL_706 dL_707 dL_708 dL_709 (by omega) hn hL ?_
  refine LW.arg (j := 3) dL_710 dL_711 dL_712 dL_713 dL_714 (by omega) hn hL ?_
  refine LW.call (as := .ref nm :: [.int (xs (4 * t + 1)), .int (xs (4 * t + 2)), .int (xs (4 * t + 3))]) (rr := [.long v]) dL_715 (List.mem_of_getElem? (i := 37) (rfl : llk[37]? = some (96, (183, 1416, 1417, 1418)))) (mw_183) rfl rfl hm (mrcv_of hm0) (Nat.le_of_ble_eq_true rfl) rfl (by omega) (by omega) (Nat.le_of_ble_eq_true rfl) (by omega) (by omega) (fun hl2 => ?_)
  refine LW.pure dL_718 rfl ?_
  refine LW.jmp (pc' := 1054) (st' := []) dL_719 (by show mif 719 335 (decide (lg_cmp v v = 0)) [] = _; rw [decide_eq_true (lcmp_eq v)]; rfl) ?_
  exact LW.next k
theorem lop_19 {v : Int32} (hL : L ≤ 256) (hn : 4 * t + 4 ≤ L) (h0 : 0 < hp.length) (hnm : nm < hp.length) (hx0 : hp[0]? = some (.inr (10, fs))) (hm0 : hp1[nm]? = some (.inr (11, gs))) (hx : exec f 30 124 0 (lv_args 0 (.ref 0 :: [.int (xs (4 * t + 1)), .int (xs (4 * t + 2)), .int (xs (4 * t + 3))])) [] hp 0 0 = some (some (.int v), hp1, c1, w1)) (hm : exec g 30 186 0 (lv_args 0 (.ref nm :: [.int (xs (4 * t + 1)), .int (xs (4 * t + 2)), .int (xs (4 * t + 3))])) [] hp1 0 0 = some (some (.int v), hp2, c2, w2)) (hc : c + c1 + c2 ≤ room_1.cells) (hw : w + w1 + w2 ≤ room_1.slots)
    (k : LW L xs nm (t + 1) 18 [] hp2 (c + c1 + c2) (w + w1 + w2)) : LW L xs nm t 724 [] hp c w := by
  refine LW.ld dL_724 rfl ?_
  refine LW.arg (j := 1) dL_725 dL_726 dL_727 dL_728 dL_729 (by omega) hn hL ?_
  refine LW.arg (j := 2) dL_730 dL_731 dL_732 dL_733 dL_734 (by omega) hn hL ?_
  refine LW.arg (j := 3) dL_735 dL_736 dL_737 dL_738 dL_739 (by omega) hn hL ?_
  refine LW.call (as := .ref 0 :: [.int (xs (4 * t + 1)), .int (xs (4 * t + 2)), .int (xs (4 * t + 3))]) (rr := []) dL_740 (List.mem_of_getElem? (i := 38) (rfl : llk[38]? = some (97, (124, 806, 807, 808)))) (mw_124) rfl rfl hx (mrcv_of hx0) (Nat.le_of_ble_eq_true rfl) rfl (by omega) hnm (Nat.le_of_ble_eq_true rfl) (by omega) (by omega) (fun hl1 => ?_)
  refine LW.ld dL_743 rfl ?_
  refine LW.arg (j := 1) dL_744 dL_745 dL_746 dL_747 dL_748 (by omega) hn hL ?_
  refine LW.arg (j := 2) dL_749 dL_750 dL_751 dL_752 dL_753 (by omega) hn hL ?_
  refine LW.arg (j := 3) dL_754 dL_755 dL_756 dL_757 dL_758 (by omega) hn hL ?_
  refine LW.call (as := .ref nm :: [.int (xs (4 * t + 1)), .int (xs (4 * t + 2)), .int (xs (4 * t + 3))]) (rr := [.int v]) dL_759 (List.mem_of_getElem? (i := 39) (rfl : llk[39]? = some (101, (186, 1424, 1425, 1426)))) (mw_186) rfl rfl hm (mrcv_of hm0) (Nat.le_of_ble_eq_true rfl) rfl (by omega) (by omega) (Nat.le_of_ble_eq_true rfl) (by omega) (by omega) (fun hl2 => ?_)
  refine LW.jmp (pc' := 1054) (st' := []) dL_762 (by show mif 762 292 (decide (v = v)) [] = _; rw [decide_eq_true (rfl : v = v)]; rfl) ?_
  exact LW.next k
theorem lop_20 {v : Int32} (hL : L ≤ 256) (hn : 4 * t + 4 ≤ L) (h0 : 0 < hp.length) (hnm : nm < hp.length) (hx0 : hp[0]? = some (.inr (10, fs))) (hm0 : hp1[nm]? = some (.inr (11, gs))) (hx : exec f 30 125 0 (lv_args 0 (.ref 0 :: [.int (xs (4 * t + 1)), .int (xs (4 * t + 2)), .int (xs (4 * t + 3))])) [] hp 0 0 = some (some (.int v), hp1, c1, w1)) (hm : exec g 30 189 0 (lv_args 0 (.ref nm :: [.int (xs (4 * t + 1)), .int (xs (4 * t + 2)), .int (xs (4 * t + 3))])) [] hp1 0 0 = some (some (.int v), hp2, c2, w2)) (hc : c + c1 + c2 ≤ room_1.cells) (hw : w + w1 + w2 ≤ room_1.slots)
    (k : LW L xs nm (t + 1) 18 [] hp2 (c + c1 + c2) (w + w1 + w2)) : LW L xs nm t 767 [] hp c w := by
  refine LW.ld dL_767 rfl ?_
  refine LW.arg (j := 1) dL_768 dL_769 dL_770 dL_771 dL_772 (by omega) hn hL ?_
  refine LW.arg (j := 2) dL_773 dL_774 dL_775 dL_776 dL_777 (by omega) hn hL ?_
  refine LW.arg (j := 3) dL_778 dL_779 dL_780 dL_781 dL_782 (by omega) hn hL ?_
  refine LW.call (as := .ref 0 :: [.int (xs (4 * t + 1)), .int (xs (4 * t + 2)), .int (xs (4 * t + 3))]) (rr := []) dL_783 (List.mem_of_getElem? (i := 40) (rfl : llk[40]? = some (102, (125, 826, 827, 828)))) (mw_125) rfl rfl hx (mrcv_of hx0) (Nat.le_of_ble_eq_true rfl) rfl (by omega) hnm (Nat.le_of_ble_eq_true rfl) (by omega) (by omega) (fun hl1 => ?_)
  refine LW.ld dL_786 rfl ?_
  refine LW.arg (j := 1) dL_787 dL_788 dL_789 dL_790 dL_791 (by omega) hn hL ?_
  refine LW.arg (j := 2) dL_792 dL_793 dL_794 dL_795 dL_796 (by omega) hn hL ?_
  refine LW.arg (j := 3) dL_797 dL_798 dL_799 dL_800 dL_801 (by omega) hn hL ?_
  refine LW.call (as := .ref nm :: [.int (xs (4 * t + 1)), .int (xs (4 * t + 2)), .int (xs (4 * t + 3))]) (rr := [.int v]) dL_802 (List.mem_of_getElem? (i := 41) (rfl : llk[41]? = some (105, (189, 1436, 1437, 1438)))) (mw_189) rfl rfl hm (mrcv_of hm0) (Nat.le_of_ble_eq_true rfl) rfl (by omega) (by omega) (Nat.le_of_ble_eq_true rfl) (by omega) (by omega) (fun hl2 => ?_)
  refine LW.jmp (pc' := 1054) (st' := []) dL_805 (by show mif 805 249 (decide (v = v)) [] = _; rw [decide_eq_true (rfl : v = v)]; rfl) ?_
  exact LW.next k
theorem lop_21 {v : Int32} (hL : L ≤ 256) (hn : 4 * t + 4 ≤ L) (h0 : 0 < hp.length) (hnm : nm < hp.length) (hx0 : hp[0]? = some (.inr (10, fs))) (hm0 : hp1[nm]? = some (.inr (11, gs))) (hx : exec f 30 126 0 (lv_args 0 (.ref 0 :: [.int (xs (4 * t + 1))])) [] hp 0 0 = some (some (.int v), hp1, c1, w1)) (hm : exec g 30 192 0 (lv_args 0 (.ref nm :: [.int (xs (4 * t + 1))])) [] hp1 0 0 = some (some (.int v), hp2, c2, w2)) (hc : c + c1 + c2 ≤ room_1.cells) (hw : w + w1 + w2 ≤ room_1.slots)
    (k : LW L xs nm (t + 1) 18 [] hp2 (c + c1 + c2) (w + w1 + w2)) : LW L xs nm t 810 [] hp c w := by
  refine LW.ld dL_810 rfl ?_
  refine LW.arg (j := 1) dL_811 dL_812 dL_813 dL_814 dL_815 (by omega) hn hL ?_
  refine LW.call (as := .ref 0 :: [.int (xs (4 * t + 1))]) (rr := []) dL_816 (List.mem_of_getElem? (i := 42) (rfl : llk[42]? = some (106, (126, 838, 839, 840)))) (mw_126) rfl rfl hx (mrcv_of hx0) (Nat.le_of_ble_eq_true rfl) rfl (by omega) hnm (Nat.le_of_ble_eq_true rfl) (by omega) (by omega) (fun hl1 => ?_)
  refine LW.ld dL_819 rfl ?_
  refine LW.arg (j := 1) dL_820 dL_821 dL_822 dL_823 dL_824 (by omega) hn hL ?_
  refine LW.call (as := .ref nm :: [.int (xs (4 * t + 1))]) (rr := [.int v]) dL_825 (List.mem_of_getElem? (i := 43) (rfl : llk[43]? = some (109, (192, 1448, 1449, 1450)))) (mw_192) rfl rfl hm (mrcv_of hm0) (Nat.le_of_ble_eq_true rfl) rfl (by omega) (by omega) (Nat.le_of_ble_eq_true rfl) (by omega) (by omega) (fun hl2 => ?_)
  refine LW.jmp (pc' := 1054) (st' := []) dL_828 (by show mif 828 226 (decide (v = v)) [] = _; rw [decide_eq_true (rfl : v = v)]; rfl) ?_
  exact LW.next k
theorem lop_22 {v : Int32} (hL : L ≤ 256) (hn : 4 * t + 4 ≤ L) (h0 : 0 < hp.length) (hnm : nm < hp.length) (hx0 : hp[0]? = some (.inr (10, fs))) (hm0 : hp1[nm]? = some (.inr (11, gs))) (hx : exec f 30 127 0 (lv_args 0 (.ref 0 :: [.int (xs (4 * t + 1))])) [] hp 0 0 = some (some (.int v), hp1, c1, w1)) (hm : exec g 30 193 0 (lv_args 0 (.ref nm :: [.int (xs (4 * t + 1))])) [] hp1 0 0 = some (some (.int v), hp2, c2, w2)) (hc : c + c1 + c2 ≤ room_1.cells) (hw : w + w1 + w2 ≤ room_1.slots)
    (k : LW L xs nm (t + 1) 18 [] hp2 (c + c1 + c2) (w + w1 + w2)) : LW L xs nm t 833 [] hp c w := by
  refine LW.ld dL_833 rfl ?_
  refine LW.arg (j := 1) dL_834 dL_835 dL_836 dL_837 dL_838 (by omega) hn hL ?_
  refine LW.call (as := .ref 0 :: [.int (xs (4 * t + 1))]) (rr := []) dL_839 (List.mem_of_getElem? (i := 44) (rfl : llk[44]? = some (110, (127, 858, 859, 860)))) (mw_127) rfl rfl hx (mrcv_of hx0) (Nat.le_of_ble_eq_true rfl) rfl (by omega) hnm (Nat.le_of_ble_eq_true rfl) (by omega) (by omega) (fun hl1 => ?_)
  refine LW.ld dL_842 rfl ?_
  refine LW.arg (j := 1) dL_843 dL_844 dL_845 dL_846 dL_847 (by omega) hn hL ?_
  refine LW.call (as := .ref nm :: [.int (xs (4 * t + 1))]) (rr := [.int v]) dL_848 (List.mem_of_getElem? (i := 45) (rfl : llk[45]? = some (113, (193, 1461, 1462, 1463)))) (mw_193) rfl rfl hm (mrcv_of hm0) (Nat.le_of_ble_eq_true rfl) rfl (by omega) (by omega) (Nat.le_of_ble_eq_true rfl) (by omega) (by omega) (fun hl2 => ?_)
  refine LW.jmp (pc' := 1054) (st' := []) dL_851 (by show mif 851 203 (decide (v = v)) [] = _; rw [decide_eq_true (rfl : v = v)]; rfl) ?_
  exact LW.next k
theorem lop_23 {v : Int32} (hL : L ≤ 256) (hn : 4 * t + 4 ≤ L) (h0 : 0 < hp.length) (hnm : nm < hp.length) (hx0 : hp[0]? = some (.inr (10, fs))) (hm0 : hp1[nm]? = some (.inr (11, gs))) (hx : exec f 30 129 0 (lv_args 0 (.ref 0 :: [.int (xs (4 * t + 1))])) [] hp 0 0 = some (some (.int v), hp1, c1, w1)) (hm : exec g 30 194 0 (lv_args 0 (.ref nm :: [.int (xs (4 * t + 1))])) [] hp1 0 0 = some (some (.int v), hp2, c2, w2)) (hc : c + c1 + c2 ≤ room_1.cells) (hw : w + w1 + w2 ≤ room_1.slots)
    (k : LW L xs nm (t + 1) 18 [] hp2 (c + c1 + c2) (w + w1 + w2)) : LW L xs nm t 856 [] hp c w := by
  refine LW.ld dL_856 rfl ?_
  refine LW.arg (j := 1) dL_857 dL_858 dL_859 dL_860 dL_861 (by omega) hn hL ?_
  refine LW.call (as := .ref 0 :: [.int (xs (4 * t + 1))]) (rr := []) dL_862 (List.mem_of_getElem? (i := 46) (rfl : llk[46]? = some (114, (129, 874, 875, 876)))) (mw_129) rfl rfl hx (mrcv_of hx0) (Nat.le_of_ble_eq_true rfl) rfl (by omega) hnm (Nat.le_of_ble_eq_true rfl) (by omega) (by omega) (fun hl1 => ?_)
  refine LW.ld dL_865 rfl ?_
  refine LW.arg (j := 1) dL_866 dL_867 dL_868 dL_869 dL_870 (by omega) hn hL ?_
  refine LW.call (as := .ref nm :: [.int (xs (4 * t + 1))]) (rr := [.int v]) dL_871 (List.mem_of_getElem? (i := 47) (rfl : llk[47]? = some (117, (194, 1465, 1466, 1467)))) (mw_194) rfl rfl hm (mrcv_of hm0) (Nat.le_of_ble_eq_true rfl) rfl (by omega) (by omega) (Nat.le_of_ble_eq_true rfl) (by omega) (by omega) (fun hl2 => ?_)
  refine LW.jmp (pc' := 1054) (st' := []) dL_874 (by show mif 874 180 (decide (v = v)) [] = _; rw [decide_eq_true (rfl : v = v)]; rfl) ?_
  exact LW.next k
theorem lop_24 {v : Int32} (hL : L ≤ 256) (hn : 4 * t + 4 ≤ L) (h0 : 0 < hp.length) (hnm : nm < hp.length) (hx0 : hp[0]? = some (.inr (10, fs))) (hm0 : hp1[nm]? = some (.inr (11, gs))) (hx : exec f 30 130 0 (lv_args 0 (.ref 0 :: [.int (xs (4 * t + 1)), .int (xs (4 * t + 2))])) [] hp 0 0 = some (some (.int v), hp1, c1, w1)) (hm : exec g 30 197 0 (lv_args 0 (.ref nm :: [.int (xs (4 * t + 1)), .int (xs (4 * t + 2))])) [] hp1 0 0 = some (some (.int v), hp2, c2, w2)) (hc : c + c1 + c2 ≤ room_1.cells) (hw : w + w1 + w2 ≤ room_1.slots)
    (k : LW L xs nm (t + 1) 18 [] hp2 (c + c1 + c2) (w + w1 + w2)) : LW L xs nm t 879 [] hp c w := by
  refine LW.ld dL_879 rfl ?_
  refine LW.arg (j := 1) dL_880 dL_881 dL_882 dL_883 dL_884 (by omega) hn hL ?_
  refine LW.arg (j := 2) dL_885 dL_886 dL_887 dL_888 dL_889 (by omega) hn hL ?_
  refine LW.call (as := .ref 0 :: [.int (xs (4 * t + 1)), .int (xs (4 * t + 2))]) (rr := []) dL_890 (List.mem_of_getElem? (i := 48) (rfl : llk[48]? = some (118, (130, 893, 894, 895)))) (mw_130) rfl rfl hx (mrcv_of hx0) (Nat.le_of_ble_eq_true rfl) rfl (by omega) hnm (Nat.le_of_ble_eq_true rfl) (by omega) (by omega) (fun hl1 => ?_)
  refine LW.ld dL_893 rfl ?_
  refine LW.arg (j := 1) dL_894 dL_895 dL_896 dL_897 dL_898 (by omega) hn hL ?_
  refine LW.arg (j := 2) dL_899 dL_900 dL_901 dL_902 dL_903 (by omega) hn hL ?_
  refine LW.call (as := .ref nm :: [.int (xs (4 * t + 1)), .int (xs (4 * t + 2))]) (rr := [.int v]) dL_904 (List.mem_of_getElem? (i := 49) (rfl : llk[49]? = some (121, (197, 1471, 1472, 1473)))) (mw_197) rfl rfl hm (mrcv_of hm0) (Nat.le_of_ble_eq_true rfl) rfl (by omega) (by omega) (Nat.le_of_ble_eq_true rfl) (by omega) (by omega) (fun hl2 => ?_)
  refine LW.jmp (pc' := 1054) (st' := []) dL_907 (by show mif 907 147 (decide (v = v)) [] = _; rw [decide_eq_true (rfl : v = v)]; rfl) ?_
  exact LW.next k
theorem lop_25 {v : Int32} (hL : L ≤ 256) (hn : 4 * t + 4 ≤ L) (h0 : 0 < hp.length) (hnm : nm < hp.length) (hx0 : hp[0]? = some (.inr (10, fs))) (hm0 : hp1[nm]? = some (.inr (11, gs))) (hx : exec f 30 131 0 (lv_args 0 (.ref 0 :: [.int (xs (4 * t + 1)), .int (xs (4 * t + 2)), .int (xs (4 * t + 3))])) [] hp 0 0 = some (some (.int v), hp1, c1, w1)) (hm : exec g 30 205 0 (lv_args 0 (.ref nm :: [.int (xs (4 * t + 1)), .int (xs (4 * t + 2)), .int (xs (4 * t + 3))])) [] hp1 0 0 = some (some (.int v), hp2, c2, w2)) (hc : c + c1 + c2 ≤ room_1.cells) (hw : w + w1 + w2 ≤ room_1.slots)
    (k : LW L xs nm (t + 1) 18 [] hp2 (c + c1 + c2) (w + w1 + w2)) : LW L xs nm t 912 [] hp c w := by
  refine LW.ld dL_912 rfl ?_
  refine LW.arg (j := 1) dL_913 dL_914 dL_915 dL_916 dL_917 (by omega) hn hL ?_
  refine LW.arg (j := 2) dL_918 dL_919 dL_920 dL_921 dL_922 (by omega) hn hL ?_
  refine LW.arg (j := 3) dL_923 dL_924 dL_925 dL_926 dL_927 (by omega) hn hL ?_
  refine LW.call (as := .ref 0 :: [.int (xs (4 * t + 1)), .int (xs (4 * t + 2)), .int (xs (4 * t + 3))]) (rr := []) dL_928 (List.mem_of_getElem? (i := 50) (rfl : llk[50]? = some (122, (131, 973, 974, 975)))) (mw_131) rfl rfl hx (mrcv_of hx0) (Nat.le_of_ble_eq_true rfl) rfl (by omega) hnm (Nat.le_of_ble_eq_true rfl) (by omega) (by omega) (fun hl1 => ?_)
  refine LW.ld dL_931 rfl ?_
  refine LW.arg (j := 1) dL_932 dL_933 dL_934 dL_935 dL_936 (by omega) hn hL ?_
  refine LW.arg (j := 2) dL_937 dL_938 dL_939 dL_940 dL_941 (by omega) hn hL ?_
  refine LW.arg (j := 3) dL_942 dL_943 dL_944 dL_945 dL_946 (by omega) hn hL ?_
  refine LW.call (as := .ref nm :: [.int (xs (4 * t + 1)), .int (xs (4 * t + 2)), .int (xs (4 * t + 3))]) (rr := [.int v]) dL_947 (List.mem_of_getElem? (i := 51) (rfl : llk[51]? = some (125, (205, 1484, 1485, 1486)))) (mw_205) rfl rfl hm (mrcv_of hm0) (Nat.le_of_ble_eq_true rfl) rfl (by omega) (by omega) (Nat.le_of_ble_eq_true rfl) (by omega) (by omega) (fun hl2 => ?_)
  refine LW.jmp (pc' := 1054) (st' := []) dL_950 (by show mif 950 104 (decide (v = v)) [] = _; rw [decide_eq_true (rfl : v = v)]; rfl) ?_
  exact LW.next k
theorem lop_26 {v : Int32} (hL : L ≤ 256) (hn : 4 * t + 4 ≤ L) (h0 : 0 < hp.length) (hnm : nm < hp.length) (hx0 : hp[0]? = some (.inr (10, fs))) (hm0 : hp1[nm]? = some (.inr (11, gs))) (hx : exec f 30 132 0 (lv_args 0 (.ref 0 :: [.int (xs (4 * t + 1)), .int (xs (4 * t + 2)), .int (xs (4 * t + 3))])) [] hp 0 0 = some (some (.int v), hp1, c1, w1)) (hm : exec g 30 206 0 (lv_args 0 (.ref nm :: [.int (xs (4 * t + 1)), .int (xs (4 * t + 2)), .int (xs (4 * t + 3))])) [] hp1 0 0 = some (some (.int v), hp2, c2, w2)) (hc : c + c1 + c2 ≤ room_1.cells) (hw : w + w1 + w2 ≤ room_1.slots)
    (k : LW L xs nm (t + 1) 18 [] hp2 (c + c1 + c2) (w + w1 + w2)) : LW L xs nm t 955 [] hp c w := by
  refine LW.ld dL_955 rfl ?_
  refine LW.arg (j := 1) dL_956 dL_957 dL_958 dL_959 dL_960 (by omega) hn hL ?_
  refine LW.arg (j := 2) dL_961 dL_962 dL_963 dL_964 dL_965 (by omega) hn hL ?_
  refine LW.arg (j := 3) dL_966 dL_967 dL_968 dL_969 dL_970 (by omega) hn hL ?_
  refine LW.call (as := .ref 0 :: [.int (xs (4 * t + 1)), .int (xs (4 * t + 2)), .int (xs (4 * t + 3))]) (rr := []) dL_971 (List.mem_of_getElem? (i := 52) (rfl : llk[52]? = some (126, (132, 990, 991, 992)))) (mw_132) rfl rfl hx (mrcv_of hx0) (Nat.le_of_ble_eq_true rfl) rfl (by omega) hnm (Nat.le_of_ble_eq_true rfl) (by omega) (by omega) (fun hl1 => ?_)
  refine LW.ld dL_974 rfl ?_
  refine LW.arg (j := 1) dL_975 dL_976 dL_977 dL_978 dL_979 (by omega) hn hL ?_
  refine LW.arg (j := 2) dL_980 dL_981 dL_982 dL_983 dL_984 (by omega) hn hL ?_
  refine LW.arg (j := 3) dL_985 dL_986 dL_987 dL_988 dL_989 (by omega) hn hL ?_
  refine LW.call (as := .ref nm :: [.int (xs (4 * t + 1)), .int (xs (4 * t + 2)), .int (xs (4 * t + 3))]) (rr := [.int v]) dL_990 (List.mem_of_getElem? (i := 53) (rfl : llk[53]? = some (129, (206, 1508, 1509, 1510)))) (mw_206) rfl rfl hm (mrcv_of hm0) (Nat.le_of_ble_eq_true rfl) rfl (by omega) (by omega) (Nat.le_of_ble_eq_true rfl) (by omega) (by omega) (fun hl2 => ?_)
  refine LW.jmp (pc' := 1054) (st' := []) dL_993 (by show mif 993 61 (decide (v = v)) [] = _; rw [decide_eq_true (rfl : v = v)]; rfl) ?_
  exact LW.next k
theorem lop_27 {v : Int32} (hL : L ≤ 256) (hn : 4 * t + 4 ≤ L) (h0 : 0 < hp.length) (hnm : nm < hp.length) (hx0 : hp[0]? = some (.inr (10, fs))) (hm0 : hp1[nm]? = some (.inr (11, gs))) (hx : exec f 30 133 0 (lv_args 0 (.ref 0 :: [.int (xs (4 * t + 1)), .int (xs (4 * t + 2))])) [] hp 0 0 = some (some (.int v), hp1, c1, w1)) (hm : exec g 30 207 0 (lv_args 0 (.ref nm :: [.int (xs (4 * t + 1)), .int (xs (4 * t + 2))])) [] hp1 0 0 = some (some (.int v), hp2, c2, w2)) (hc : c + c1 + c2 ≤ room_1.cells) (hw : w + w1 + w2 ≤ room_1.slots)
    (k : LW L xs nm (t + 1) 18 [] hp2 (c + c1 + c2) (w + w1 + w2)) : LW L xs nm t 998 [] hp c w := by
  refine LW.ld dL_998 rfl ?_
  refine LW.arg (j := 1) dL_999 dL_1000 dL_1001 dL_1002 dL_1003 (by omega) hn hL ?_
  refine LW.arg (j := 2) dL_1004 dL_1005 dL_1006 dL_1007 dL_1008 (by omega) hn hL ?_
  refine LW.call (as := .ref 0 :: [.int (xs (4 * t + 1)), .int (xs (4 * t + 2))]) (rr := []) dL_1009 (List.mem_of_getElem? (i := 54) (rfl : llk[54]? = some (130, (133, 1086, 1087, 1088)))) (mw_133) rfl rfl hx (mrcv_of hx0) (Nat.le_of_ble_eq_true rfl) rfl (by omega) hnm (Nat.le_of_ble_eq_true rfl) (by omega) (by omega) (fun hl1 => ?_)
  refine LW.ld dL_1012 rfl ?_
  refine LW.arg (j := 1) dL_1013 dL_1014 dL_1015 dL_1016 dL_1017 (by omega) hn hL ?_
  refine LW.arg (j := 2) dL_1018 dL_1019 dL_1020 dL_1021 dL_1022 (by omega) hn hL ?_
  refine LW.call (as := .ref nm :: [.int (xs (4 * t + 1)), .int (xs (4 * t + 2))]) (rr := [.int v]) dL_1023 (List.mem_of_getElem? (i := 55) (rfl : llk[55]? = some (133, (207, 1520, 1521, 1522)))) (mw_207) rfl rfl hm (mrcv_of hm0) (Nat.le_of_ble_eq_true rfl) rfl (by omega) (by omega) (Nat.le_of_ble_eq_true rfl) (by omega) (by omega) (fun hl2 => ?_)
  refine LW.jmp (pc' := 1054) (st' := []) dL_1026 (by show mif 1026 28 (decide (v = v)) [] = _; rw [decide_eq_true (rfl : v = v)]; rfl) ?_
  exact LW.next k
theorem lop_28 {v : Int32} (hL : L ≤ 256) (hn : 4 * t + 4 ≤ L) (h0 : 0 < hp.length) (hnm : nm < hp.length) (hx0 : hp[0]? = some (.inr (10, fs))) (hm0 : hp1[nm]? = some (.inr (11, gs))) (hx : exec f 30 134 0 (lv_args 0 (.ref 0 :: [.int (xs (4 * t + 1))])) [] hp 0 0 = some (some (.int v), hp1, c1, w1)) (hm : exec g 30 208 0 (lv_args 0 (.ref nm :: [.int (xs (4 * t + 1))])) [] hp1 0 0 = some (some (.int v), hp2, c2, w2)) (hc : c + c1 + c2 ≤ room_1.cells) (hw : w + w1 + w2 ≤ room_1.slots)
    (k : LW L xs nm (t + 1) 18 [] hp2 (c + c1 + c2) (w + w1 + w2)) : LW L xs nm t 1031 [] hp c w := by
  refine LW.ld dL_1031 rfl ?_
  refine LW.arg (j := 1) dL_1032 dL_1033 dL_1034 dL_1035 dL_1036 (by omega) hn hL ?_
  refine LW.call (as := .ref 0 :: [.int (xs (4 * t + 1))]) (rr := []) dL_1037 (List.mem_of_getElem? (i := 56) (rfl : llk[56]? = some (134, (134, 1090, 1091, 1092)))) (mw_134) rfl rfl hx (mrcv_of hx0) (Nat.le_of_ble_eq_true rfl) rfl (by omega) hnm (Nat.le_of_ble_eq_true rfl) (by omega) (by omega) (fun hl1 => ?_)
  refine LW.ld dL_1040 rfl ?_
  refine LW.arg (j := 1) dL_1041 dL_1042 dL_1043 dL_1044 dL_1045 (by omega) hn hL ?_
  refine LW.call (as := .ref nm :: [.int (xs (4 * t + 1))]) (rr := [.int v]) dL_1046 (List.mem_of_getElem? (i := 57) (rfl : llk[57]? = some (137, (208, 1524, 1525, 1526)))) (mw_208) rfl rfl hm (mrcv_of hm0) (Nat.le_of_ble_eq_true rfl) rfl (by omega) (by omega) (Nat.le_of_ble_eq_true rfl) (by omega) (by omega) (fun hl2 => ?_)
  refine LW.jmp (pc' := 1054) (st' := []) dL_1049 (by show mif 1049 5 (decide (v = v)) [] = _; rw [decide_eq_true (rfl : v = v)]; rfl) ?_
  exact LW.next k
end LOP
