/-! ===== the law: its loop ===== -/
abbrev mL_law : jM := (yL_law, cL_law, 4, some .boolean)
def sA (E : jE) (i j : Nat) : Int32 := (jX E).2.2 (nI i + nI j).toNatClampNeg
theorem sIn {i j L : Nat} (h : i + j < L) (hL : L ≤ 2048) : jIn (nI i + nI j) L := by
  rw [nI_add]
  exact jIn_lit (by omega) h
theorem law_gt {L i : Nat} (hL : L ≤ 2048) (hi : i ≤ 2048) : (Int32.ofNat L - 4 < nI i) ↔ L < i + 4 := by
  rw [Int32.lt_iff_toInt_lt, show (Int32.ofNat L - 4 : Int32) = nI L - nI 4 from rfl, pk_sub_toInt (by omega) (by omega), nI_toInt (by omega)]
  omega
set_option maxRecDepth 10000 in
set_option maxHeartbeats 4000000 in
theorem lc_132 {E : jE} (hC : jHC E) (hM : jHM E) {i : Nat} (h0 : i + 4 ≤ (jX E).2.1) (hL : (jX E).2.1 ≤ 2048) {S S1 S2 S' : jS} {r : Int32} (h1 : fX7_write S (sA E i 1) = some (r, S1)) (h2 : fX8_write S1 (sA E i 1) = some (r, S2)) (k : JR E 20 mL_law 735 [(0, .ref (jX E).1), (1, .ref (E.1 (0, 0))), (2, .ref (E.1 (9, 0))), (3, .int (nI i))] [] S2 [.int 1] S') : JR E 20 mL_law 132 [(0, .ref (jX E).1), (1, .ref (E.1 (0, 0))), (2, .ref (E.1 (9, 0))), (3, .int (nI i))] [] S [.int 1] S' := by
  refine j_aload_n (pc := 132) 1 dL_law_132 rfl rfl ?_
  refine j_aload_n (pc := 133) 0 dL_law_133 rfl rfl ?_
  refine j_iload_n (pc := 134) 3 dL_law_134 rfl rfl ?_
  refine j_iconst (pc := 135) dL_law_135 jci_1 ?_
  refine j_iadd (pc := 136) dL_law_136 ?_
  refine j_sld (pc := 137) dL_law_137 rfl (sIn (j := 1) (by omega) hL) ?_
  refine j_callV (pc := 138) (N := mX7_write) (rr := (0, 0)) (As := [.int (sA E i 1)]) (rest := []) (v := [.int r]) (S1 := S1) dL_law_138 (kX7_write hC h1) (by simp) (by decide) okX7_write tw_499 tw_500 tw_498 (hC (0, 0) rfl) rfl rfl rfl rfl (by simp [Value.category]) ?_
  refine j_aload_n (pc := 141) 2 dL_law_141 rfl rfl ?_
  refine j_aload_n (pc := 142) 0 dL_law_142 rfl rfl ?_
  refine j_iload_n (pc := 143) 3 dL_law_143 rfl rfl ?_
  refine j_iconst (pc := 144) dL_law_144 jci_1 ?_
  refine j_iadd (pc := 145) dL_law_145 ?_
  refine j_sld (pc := 146) dL_law_146 rfl (sIn (j := 1) (by omega) hL) ?_
  refine j_callV (pc := 147) (N := mX8_write) (rr := (9, 0)) (As := [.int (sA E i 1)]) (rest := [.int r]) (v := [.int r]) (S1 := S2) dL_law_147 (kX8_write hM h2) (by simp) (by decide) okX8_write tw_840 tw_841 tw_839 (hM (9, 0) rfl) rfl rfl rfl rfl (by simp [Value.category]) ?_
  exact j_icmp_eq (pc := 150) (tgt := 735) dL_law_150 (by decide) (fun _ => k) (fun c => absurd rfl c)
set_option maxRecDepth 10000 in
set_option maxHeartbeats 4000000 in
theorem lc_155 {E : jE} (hC : jHC E) (hM : jHM E) {i : Nat} (h0 : i + 4 ≤ (jX E).2.1) (hL : (jX E).2.1 ≤ 2048) {S S1 S2 S' : jS} {r : Int32} (h1 : fX7_wipe S = some (r, S1)) (h2 : fX8_wipe S1 = some (r, S2)) (k : JR E 20 mL_law 735 [(0, .ref (jX E).1), (1, .ref (E.1 (0, 0))), (2, .ref (E.1 (9, 0))), (3, .int (nI i))] [] S2 [.int 1] S') : JR E 20 mL_law 155 [(0, .ref (jX E).1), (1, .ref (E.1 (0, 0))), (2, .ref (E.1 (9, 0))), (3, .int (nI i))] [] S [.int 1] S' := by
  refine j_aload_n (pc := 155) 1 dL_law_155 rfl rfl ?_
  refine j_callV (pc := 156) (N := mX7_wipe) (rr := (0, 0)) (As := []) (rest := []) (v := [.int r]) (S1 := S1) dL_law_156 (kX7_wipe hC h1) (by simp) (by decide) okX7_wipe tw_504 tw_505 tw_503 (hC (0, 0) rfl) rfl rfl rfl rfl (by simp [Value.category]) ?_
  refine j_aload_n (pc := 159) 2 dL_law_159 rfl rfl ?_
  refine j_callV (pc := 160) (N := mX8_wipe) (rr := (9, 0)) (As := []) (rest := [.int r]) (v := [.int r]) (S1 := S2) dL_law_160 (kX8_wipe hM h2) (by simp) (by decide) okX8_wipe tw_849 tw_850 tw_848 (hM (9, 0) rfl) rfl rfl rfl rfl (by simp [Value.category]) ?_
  exact j_icmp_eq (pc := 163) (tgt := 735) dL_law_163 (by decide) (fun _ => k) (fun c => absurd rfl c)
set_option maxRecDepth 10000 in
set_option maxHeartbeats 4000000 in
theorem lc_168 {E : jE} (hC : jHC E) (hM : jHM E) {i : Nat} (h0 : i + 4 ≤ (jX E).2.1) (hL : (jX E).2.1 ≤ 2048) {S S1 S2 S' : jS} {r : Int32} (h1 : fX7_fault S = some (r, S1)) (h2 : fX8_fault S1 = some (r, S2)) (k : JR E 20 mL_law 735 [(0, .ref (jX E).1), (1, .ref (E.1 (0, 0))), (2, .ref (E.1 (9, 0))), (3, .int (nI i))] [] S2 [.int 1] S') : JR E 20 mL_law 168 [(0, .ref (jX E).1), (1, .ref (E.1 (0, 0))), (2, .ref (E.1 (9, 0))), (3, .int (nI i))] [] S [.int 1] S' := by
  refine j_aload_n (pc := 168) 1 dL_law_168 rfl rfl ?_
  refine j_callV (pc := 169) (N := mX7_fault) (rr := (0, 0)) (As := []) (rest := []) (v := [.int r]) (S1 := S1) dL_law_169 (kX7_fault hC h1) (by simp) (by decide) okX7_fault tw_508 tw_509 tw_507 (hC (0, 0) rfl) rfl rfl rfl rfl (by simp [Value.category]) ?_
  refine j_aload_n (pc := 172) 2 dL_law_172 rfl rfl ?_
  refine j_callV (pc := 173) (N := mX8_fault) (rr := (9, 0)) (As := []) (rest := [.int r]) (v := [.int r]) (S1 := S2) dL_law_173 (kX8_fault hM h2) (by simp) (by decide) okX8_fault tw_853 tw_854 tw_852 (hM (9, 0) rfl) rfl rfl rfl rfl (by simp [Value.category]) ?_
  exact j_icmp_eq (pc := 176) (tgt := 735) dL_law_176 (by decide) (fun _ => k) (fun c => absurd rfl c)
set_option maxRecDepth 10000 in
set_option maxHeartbeats 4000000 in
theorem lc_181 {E : jE} (hC : jHC E) (hM : jHM E) {i : Nat} (h0 : i + 4 ≤ (jX E).2.1) (hL : (jX E).2.1 ≤ 2048) {S S1 S2 S' : jS} {r : Int32} (h1 : fX7_lay S = some (r, S1)) (h2 : fX8_lay S1 = some (r, S2)) (k : JR E 20 mL_law 735 [(0, .ref (jX E).1), (1, .ref (E.1 (0, 0))), (2, .ref (E.1 (9, 0))), (3, .int (nI i))] [] S2 [.int 1] S') : JR E 20 mL_law 181 [(0, .ref (jX E).1), (1, .ref (E.1 (0, 0))), (2, .ref (E.1 (9, 0))), (3, .int (nI i))] [] S [.int 1] S' := by
  refine j_aload_n (pc := 181) 1 dL_law_181 rfl rfl ?_
  refine j_callV (pc := 182) (N := mX7_lay) (rr := (0, 0)) (As := []) (rest := []) (v := [.int r]) (S1 := S1) dL_law_182 (kX7_lay hC h1) (by simp) (by decide) okX7_lay tw_512 tw_513 tw_511 (hC (0, 0) rfl) rfl rfl rfl rfl (by simp [Value.category]) ?_
  refine j_aload_n (pc := 185) 2 dL_law_185 rfl rfl ?_
  refine j_callV (pc := 186) (N := mX8_lay) (rr := (9, 0)) (As := []) (rest := [.int r]) (v := [.int r]) (S1 := S2) dL_law_186 (kX8_lay hM h2) (by simp) (by decide) okX8_lay tw_902 tw_903 tw_901 (hM (9, 0) rfl) rfl rfl rfl rfl (by simp [Value.category]) ?_
  exact j_icmp_eq (pc := 189) (tgt := 735) dL_law_189 (by decide) (fun _ => k) (fun c => absurd rfl c)
set_option maxRecDepth 10000 in
set_option maxHeartbeats 4000000 in
theorem lc_194 {E : jE} (hC : jHC E) (hM : jHM E) {i : Nat} (h0 : i + 4 ≤ (jX E).2.1) (hL : (jX E).2.1 ≤ 2048) {S S1 S2 S' : jS} {r : Int32} (h1 : fX7_feed S (sA E i 1) (sA E i 2) (sA E i 3) = some (r, S1)) (h2 : fX8_feed S1 (sA E i 1) (sA E i 2) (sA E i 3) = some (r, S2)) (k : JR E 20 mL_law 735 [(0, .ref (jX E).1), (1, .ref (E.1 (0, 0))), (2, .ref (E.1 (9, 0))), (3, .int (nI i))] [] S2 [.int 1] S') : JR E 20 mL_law 194 [(0, .ref (jX E).1), (1, .ref (E.1 (0, 0))), (2, .ref (E.1 (9, 0))), (3, .int (nI i))] [] S [.int 1] S' := by
  refine j_aload_n (pc := 194) 1 dL_law_194 rfl rfl ?_
  refine j_aload_n (pc := 195) 0 dL_law_195 rfl rfl ?_
  refine j_iload_n (pc := 196) 3 dL_law_196 rfl rfl ?_
  refine j_iconst (pc := 197) dL_law_197 jci_1 ?_
  refine j_iadd (pc := 198) dL_law_198 ?_
  refine j_sld (pc := 199) dL_law_199 rfl (sIn (j := 1) (by omega) hL) ?_
  refine j_aload_n (pc := 200) 0 dL_law_200 rfl rfl ?_
  refine j_iload_n (pc := 201) 3 dL_law_201 rfl rfl ?_
  refine j_iconst (pc := 202) dL_law_202 jci_2 ?_
  refine j_iadd (pc := 203) dL_law_203 ?_
  refine j_sld (pc := 204) dL_law_204 rfl (sIn (j := 2) (by omega) hL) ?_
  refine j_aload_n (pc := 205) 0 dL_law_205 rfl rfl ?_
  refine j_iload_n (pc := 206) 3 dL_law_206 rfl rfl ?_
  refine j_iconst (pc := 207) dL_law_207 jci_3 ?_
  refine j_iadd (pc := 208) dL_law_208 ?_
  refine j_sld (pc := 209) dL_law_209 rfl (sIn (j := 3) (by omega) hL) ?_
  refine j_callV (pc := 210) (N := mX7_feed) (rr := (0, 0)) (As := [.int (sA E i 1), .int (sA E i 2), .int (sA E i 3)]) (rest := []) (v := [.int r]) (S1 := S1) dL_law_210 (kX7_feed hC h1) (by simp) (by decide) okX7_feed tw_516 tw_517 tw_515 (hC (0, 0) rfl) rfl rfl rfl rfl (by simp [Value.category]) ?_
  refine j_aload_n (pc := 213) 2 dL_law_213 rfl rfl ?_
  refine j_aload_n (pc := 214) 0 dL_law_214 rfl rfl ?_
  refine j_iload_n (pc := 215) 3 dL_law_215 rfl rfl ?_
  refine j_iconst (pc := 216) dL_law_216 jci_1 ?_
  refine j_iadd (pc := 217) dL_law_217 ?_
  refine j_sld (pc := 218) dL_law_218 rfl (sIn (j := 1) (by omega) hL) ?_
  refine j_aload_n (pc := 219) 0 dL_law_219 rfl rfl ?_
  refine j_iload_n (pc := 220) 3 dL_law_220 rfl rfl ?_
  refine j_iconst (pc := 221) dL_law_221 jci_2 ?_
  refine j_iadd (pc := 222) dL_law_222 ?_
  refine j_sld (pc := 223) dL_law_223 rfl (sIn (j := 2) (by omega) hL) ?_
  refine j_aload_n (pc := 224) 0 dL_law_224 rfl rfl ?_
  refine j_iload_n (pc := 225) 3 dL_law_225 rfl rfl ?_
  refine j_iconst (pc := 226) dL_law_226 jci_3 ?_
  refine j_iadd (pc := 227) dL_law_227 ?_
  refine j_sld (pc := 228) dL_law_228 rfl (sIn (j := 3) (by omega) hL) ?_
  refine j_callV (pc := 229) (N := mX8_feed) (rr := (9, 0)) (As := [.int (sA E i 1), .int (sA E i 2), .int (sA E i 3)]) (rest := [.int r]) (v := [.int r]) (S1 := S2) dL_law_229 (kX8_feed hM h2) (by simp) (by decide) okX8_feed tw_910 tw_911 tw_909 (hM (9, 0) rfl) rfl rfl rfl rfl (by simp [Value.category]) ?_
  exact j_icmp_eq (pc := 232) (tgt := 735) dL_law_232 (by decide) (fun _ => k) (fun c => absurd rfl c)
set_option maxRecDepth 10000 in
set_option maxHeartbeats 4000000 in
theorem lc_237 {E : jE} (hC : jHC E) (hM : jHM E) {i : Nat} (h0 : i + 4 ≤ (jX E).2.1) (hL : (jX E).2.1 ≤ 2048) {S S1 S2 S' : jS} {r : Int32} (h1 : fX7_room S (sA E i 1) (sA E i 2) = some (r, S1)) (h2 : fX8_room S1 (sA E i 1) (sA E i 2) = some (r, S2)) (k : JR E 20 mL_law 735 [(0, .ref (jX E).1), (1, .ref (E.1 (0, 0))), (2, .ref (E.1 (9, 0))), (3, .int (nI i))] [] S2 [.int 1] S') : JR E 20 mL_law 237 [(0, .ref (jX E).1), (1, .ref (E.1 (0, 0))), (2, .ref (E.1 (9, 0))), (3, .int (nI i))] [] S [.int 1] S' := by
  refine j_aload_n (pc := 237) 1 dL_law_237 rfl rfl ?_
  refine j_aload_n (pc := 238) 0 dL_law_238 rfl rfl ?_
  refine j_iload_n (pc := 239) 3 dL_law_239 rfl rfl ?_
  refine j_iconst (pc := 240) dL_law_240 jci_1 ?_
  refine j_iadd (pc := 241) dL_law_241 ?_
  refine j_sld (pc := 242) dL_law_242 rfl (sIn (j := 1) (by omega) hL) ?_
  refine j_aload_n (pc := 243) 0 dL_law_243 rfl rfl ?_
  refine j_iload_n (pc := 244) 3 dL_law_244 rfl rfl ?_
  refine j_iconst (pc := 245) dL_law_245 jci_2 ?_
  refine j_iadd (pc := 246) dL_law_246 ?_
  refine j_sld (pc := 247) dL_law_247 rfl (sIn (j := 2) (by omega) hL) ?_
  refine j_callV (pc := 248) (N := mX7_room) (rr := (0, 0)) (As := [.int (sA E i 1), .int (sA E i 2)]) (rest := []) (v := [.int r]) (S1 := S1) dL_law_248 (kX7_room hC h1) (by simp) (by decide) okX7_room tw_537 tw_538 tw_536 (hC (0, 0) rfl) rfl rfl rfl rfl (by simp [Value.category]) ?_
  refine j_aload_n (pc := 251) 2 dL_law_251 rfl rfl ?_
  refine j_aload_n (pc := 252) 0 dL_law_252 rfl rfl ?_
  refine j_iload_n (pc := 253) 3 dL_law_253 rfl rfl ?_
  refine j_iconst (pc := 254) dL_law_254 jci_1 ?_
  refine j_iadd (pc := 255) dL_law_255 ?_
  refine j_sld (pc := 256) dL_law_256 rfl (sIn (j := 1) (by omega) hL) ?_
  refine j_aload_n (pc := 257) 0 dL_law_257 rfl rfl ?_
  refine j_iload_n (pc := 258) 3 dL_law_258 rfl rfl ?_
  refine j_iconst (pc := 259) dL_law_259 jci_2 ?_
  refine j_iadd (pc := 260) dL_law_260 ?_
  refine j_sld (pc := 261) dL_law_261 rfl (sIn (j := 2) (by omega) hL) ?_
  refine j_callV (pc := 262) (N := mX8_room) (rr := (9, 0)) (As := [.int (sA E i 1), .int (sA E i 2)]) (rest := [.int r]) (v := [.int r]) (S1 := S2) dL_law_262 (kX8_room hM h2) (by simp) (by decide) okX8_room tw_934 tw_935 tw_933 (hM (9, 0) rfl) rfl rfl rfl rfl (by simp [Value.category]) ?_
  exact j_icmp_eq (pc := 265) (tgt := 735) dL_law_265 (by decide) (fun _ => k) (fun c => absurd rfl c)
set_option maxRecDepth 10000 in
set_option maxHeartbeats 4000000 in
theorem lc_270 {E : jE} (hC : jHC E) (hM : jHM E) {i : Nat} (h0 : i + 4 ≤ (jX E).2.1) (hL : (jX E).2.1 ≤ 2048) {S S1 S2 S' : jS} {r : Int32} (h1 : fX7_tell S (sA E i 1) (sA E i 2) = some (r, S1)) (h2 : fX8_tell S1 (sA E i 1) (sA E i 2) = some (r, S2)) (k : JR E 20 mL_law 735 [(0, .ref (jX E).1), (1, .ref (E.1 (0, 0))), (2, .ref (E.1 (9, 0))), (3, .int (nI i))] [] S2 [.int 1] S') : JR E 20 mL_law 270 [(0, .ref (jX E).1), (1, .ref (E.1 (0, 0))), (2, .ref (E.1 (9, 0))), (3, .int (nI i))] [] S [.int 1] S' := by
  refine j_aload_n (pc := 270) 1 dL_law_270 rfl rfl ?_
  refine j_aload_n (pc := 271) 0 dL_law_271 rfl rfl ?_
  refine j_iload_n (pc := 272) 3 dL_law_272 rfl rfl ?_
  refine j_iconst (pc := 273) dL_law_273 jci_1 ?_
  refine j_iadd (pc := 274) dL_law_274 ?_
  refine j_sld (pc := 275) dL_law_275 rfl (sIn (j := 1) (by omega) hL) ?_
  refine j_aload_n (pc := 276) 0 dL_law_276 rfl rfl ?_
  refine j_iload_n (pc := 277) 3 dL_law_277 rfl rfl ?_
  refine j_iconst (pc := 278) dL_law_278 jci_2 ?_
  refine j_iadd (pc := 279) dL_law_279 ?_
  refine j_sld (pc := 280) dL_law_280 rfl (sIn (j := 2) (by omega) hL) ?_
  refine j_callV (pc := 281) (N := mX7_tell) (rr := (0, 0)) (As := [.int (sA E i 1), .int (sA E i 2)]) (rest := []) (v := [.int r]) (S1 := S1) dL_law_281 (kX7_tell hC h1) (by simp) (by decide) okX7_tell tw_542 tw_543 tw_541 (hC (0, 0) rfl) rfl rfl rfl rfl (by simp [Value.category]) ?_
  refine j_aload_n (pc := 284) 2 dL_law_284 rfl rfl ?_
  refine j_aload_n (pc := 285) 0 dL_law_285 rfl rfl ?_
  refine j_iload_n (pc := 286) 3 dL_law_286 rfl rfl ?_
  refine j_iconst (pc := 287) dL_law_287 jci_1 ?_
  refine j_iadd (pc := 288) dL_law_288 ?_
  refine j_sld (pc := 289) dL_law_289 rfl (sIn (j := 1) (by omega) hL) ?_
  refine j_aload_n (pc := 290) 0 dL_law_290 rfl rfl ?_
  refine j_iload_n (pc := 291) 3 dL_law_291 rfl rfl ?_
  refine j_iconst (pc := 292) dL_law_292 jci_2 ?_
  refine j_iadd (pc := 293) dL_law_293 ?_
  refine j_sld (pc := 294) dL_law_294 rfl (sIn (j := 2) (by omega) hL) ?_
  refine j_callV (pc := 295) (N := mX8_tell) (rr := (9, 0)) (As := [.int (sA E i 1), .int (sA E i 2)]) (rest := [.int r]) (v := [.int r]) (S1 := S2) dL_law_295 (kX8_tell hM h2) (by simp) (by decide) okX8_tell tw_942 tw_943 tw_941 (hM (9, 0) rfl) rfl rfl rfl rfl (by simp [Value.category]) ?_
  exact j_icmp_eq (pc := 298) (tgt := 735) dL_law_298 (by decide) (fun _ => k) (fun c => absurd rfl c)
set_option maxRecDepth 10000 in
set_option maxHeartbeats 4000000 in
theorem lc_303 {E : jE} (hC : jHC E) (hM : jHM E) {i : Nat} (h0 : i + 4 ≤ (jX E).2.1) (hL : (jX E).2.1 ≤ 2048) {S S1 S2 S' : jS} {r : Int32} (h1 : fX7_clash S (sA E i 1) (sA E i 2) (sA E i 3) = some (r, S1)) (h2 : fX8_clash S1 (sA E i 1) (sA E i 2) (sA E i 3) = some (r, S2)) (k : JR E 20 mL_law 735 [(0, .ref (jX E).1), (1, .ref (E.1 (0, 0))), (2, .ref (E.1 (9, 0))), (3, .int (nI i))] [] S2 [.int 1] S') : JR E 20 mL_law 303 [(0, .ref (jX E).1), (1, .ref (E.1 (0, 0))), (2, .ref (E.1 (9, 0))), (3, .int (nI i))] [] S [.int 1] S' := by
  refine j_aload_n (pc := 303) 1 dL_law_303 rfl rfl ?_
  refine j_aload_n (pc := 304) 0 dL_law_304 rfl rfl ?_
  refine j_iload_n (pc := 305) 3 dL_law_305 rfl rfl ?_
  refine j_iconst (pc := 306) dL_law_306 jci_1 ?_
  refine j_iadd (pc := 307) dL_law_307 ?_
  refine j_sld (pc := 308) dL_law_308 rfl (sIn (j := 1) (by omega) hL) ?_
  refine j_aload_n (pc := 309) 0 dL_law_309 rfl rfl ?_
  refine j_iload_n (pc := 310) 3 dL_law_310 rfl rfl ?_
  refine j_iconst (pc := 311) dL_law_311 jci_2 ?_
  refine j_iadd (pc := 312) dL_law_312 ?_
  refine j_sld (pc := 313) dL_law_313 rfl (sIn (j := 2) (by omega) hL) ?_
  refine j_aload_n (pc := 314) 0 dL_law_314 rfl rfl ?_
  refine j_iload_n (pc := 315) 3 dL_law_315 rfl rfl ?_
  refine j_iconst (pc := 316) dL_law_316 jci_3 ?_
  refine j_iadd (pc := 317) dL_law_317 ?_
  refine j_sld (pc := 318) dL_law_318 rfl (sIn (j := 3) (by omega) hL) ?_
  refine j_callV (pc := 319) (N := mX7_clash) (rr := (0, 0)) (As := [.int (sA E i 1), .int (sA E i 2), .int (sA E i 3)]) (rest := []) (v := [.int r]) (S1 := S1) dL_law_319 (kX7_clash hC h1) (by simp) (by decide) okX7_clash tw_554 tw_555 tw_553 (hC (0, 0) rfl) rfl rfl rfl rfl (by simp [Value.category]) ?_
  refine j_aload_n (pc := 322) 2 dL_law_322 rfl rfl ?_
  refine j_aload_n (pc := 323) 0 dL_law_323 rfl rfl ?_
  refine j_iload_n (pc := 324) 3 dL_law_324 rfl rfl ?_
  refine j_iconst (pc := 325) dL_law_325 jci_1 ?_
  refine j_iadd (pc := 326) dL_law_326 ?_
  refine j_sld (pc := 327) dL_law_327 rfl (sIn (j := 1) (by omega) hL) ?_
  refine j_aload_n (pc := 328) 0 dL_law_328 rfl rfl ?_
  refine j_iload_n (pc := 329) 3 dL_law_329 rfl rfl ?_
  refine j_iconst (pc := 330) dL_law_330 jci_2 ?_
  refine j_iadd (pc := 331) dL_law_331 ?_
  refine j_sld (pc := 332) dL_law_332 rfl (sIn (j := 2) (by omega) hL) ?_
  refine j_aload_n (pc := 333) 0 dL_law_333 rfl rfl ?_
  refine j_iload_n (pc := 334) 3 dL_law_334 rfl rfl ?_
  refine j_iconst (pc := 335) dL_law_335 jci_3 ?_
  refine j_iadd (pc := 336) dL_law_336 ?_
  refine j_sld (pc := 337) dL_law_337 rfl (sIn (j := 3) (by omega) hL) ?_
  refine j_callV (pc := 338) (N := mX8_clash) (rr := (9, 0)) (As := [.int (sA E i 1), .int (sA E i 2), .int (sA E i 3)]) (rest := [.int r]) (v := [.int r]) (S1 := S2) dL_law_338 (kX8_clash hM h2) (by simp) (by decide) okX8_clash tw_946 tw_947 tw_945 (hM (9, 0) rfl) rfl rfl rfl rfl (by simp [Value.category]) ?_
  exact j_icmp_eq (pc := 341) (tgt := 735) dL_law_341 (by decide) (fun _ => k) (fun c => absurd rfl c)
set_option maxRecDepth 10000 in
set_option maxHeartbeats 4000000 in
theorem lc_346 {E : jE} (hC : jHC E) (hM : jHM E) {i : Nat} (h0 : i + 4 ≤ (jX E).2.1) (hL : (jX E).2.1 ≤ 2048) {S S1 S2 S' : jS} {r : Int32} (h1 : fX7_put S (sA E i 1) (sA E i 2) (sA E i 3) = some (r, S1)) (h2 : fX8_put S1 (sA E i 1) (sA E i 2) (sA E i 3) = some (r, S2)) (k : JR E 20 mL_law 735 [(0, .ref (jX E).1), (1, .ref (E.1 (0, 0))), (2, .ref (E.1 (9, 0))), (3, .int (nI i))] [] S2 [.int 1] S') : JR E 20 mL_law 346 [(0, .ref (jX E).1), (1, .ref (E.1 (0, 0))), (2, .ref (E.1 (9, 0))), (3, .int (nI i))] [] S [.int 1] S' := by
  refine j_aload_n (pc := 346) 1 dL_law_346 rfl rfl ?_
  refine j_aload_n (pc := 347) 0 dL_law_347 rfl rfl ?_
  refine j_iload_n (pc := 348) 3 dL_law_348 rfl rfl ?_
  refine j_iconst (pc := 349) dL_law_349 jci_1 ?_
  refine j_iadd (pc := 350) dL_law_350 ?_
  refine j_sld (pc := 351) dL_law_351 rfl (sIn (j := 1) (by omega) hL) ?_
  refine j_aload_n (pc := 352) 0 dL_law_352 rfl rfl ?_
  refine j_iload_n (pc := 353) 3 dL_law_353 rfl rfl ?_
  refine j_iconst (pc := 354) dL_law_354 jci_2 ?_
  refine j_iadd (pc := 355) dL_law_355 ?_
  refine j_sld (pc := 356) dL_law_356 rfl (sIn (j := 2) (by omega) hL) ?_
  refine j_aload_n (pc := 357) 0 dL_law_357 rfl rfl ?_
  refine j_iload_n (pc := 358) 3 dL_law_358 rfl rfl ?_
  refine j_iconst (pc := 359) dL_law_359 jci_3 ?_
  refine j_iadd (pc := 360) dL_law_360 ?_
  refine j_sld (pc := 361) dL_law_361 rfl (sIn (j := 3) (by omega) hL) ?_
  refine j_callV (pc := 362) (N := mX7_put) (rr := (0, 0)) (As := [.int (sA E i 1), .int (sA E i 2), .int (sA E i 3)]) (rest := []) (v := [.int r]) (S1 := S1) dL_law_362 (kX7_put hC h1) (by simp) (by decide) okX7_put tw_570 tw_571 tw_569 (hC (0, 0) rfl) rfl rfl rfl rfl (by simp [Value.category]) ?_
  refine j_aload_n (pc := 365) 2 dL_law_365 rfl rfl ?_
  refine j_aload_n (pc := 366) 0 dL_law_366 rfl rfl ?_
  refine j_iload_n (pc := 367) 3 dL_law_367 rfl rfl ?_
  refine j_iconst (pc := 368) dL_law_368 jci_1 ?_
  refine j_iadd (pc := 369) dL_law_369 ?_
  refine j_sld (pc := 370) dL_law_370 rfl (sIn (j := 1) (by omega) hL) ?_
  refine j_aload_n (pc := 371) 0 dL_law_371 rfl rfl ?_
  refine j_iload_n (pc := 372) 3 dL_law_372 rfl rfl ?_
  refine j_iconst (pc := 373) dL_law_373 jci_2 ?_
  refine j_iadd (pc := 374) dL_law_374 ?_
  refine j_sld (pc := 375) dL_law_375 rfl (sIn (j := 2) (by omega) hL) ?_
  refine j_aload_n (pc := 376) 0 dL_law_376 rfl rfl ?_
  refine j_iload_n (pc := 377) 3 dL_law_377 rfl rfl ?_
  refine j_iconst (pc := 378) dL_law_378 jci_3 ?_
  refine j_iadd (pc := 379) dL_law_379 ?_
  refine j_sld (pc := 380) dL_law_380 rfl (sIn (j := 3) (by omega) hL) ?_
  refine j_callV (pc := 381) (N := mX8_put) (rr := (9, 0)) (As := [.int (sA E i 1), .int (sA E i 2), .int (sA E i 3)]) (rest := [.int r]) (v := [.int r]) (S1 := S2) dL_law_381 (kX8_put hM h2) (by simp) (by decide) okX8_put tw_960 tw_961 tw_959 (hM (9, 0) rfl) rfl rfl rfl rfl (by simp [Value.category]) ?_
  exact j_icmp_eq (pc := 384) (tgt := 735) dL_law_384 (by decide) (fun _ => k) (fun c => absurd rfl c)
set_option maxRecDepth 10000 in
set_option maxHeartbeats 4000000 in
theorem lc_389 {E : jE} (hC : jHC E) (hM : jHM E) {i : Nat} (h0 : i + 4 ≤ (jX E).2.1) (hL : (jX E).2.1 ≤ 2048) {S S1 S2 S' : jS} {r : Int32} (h1 : fX7_slot S (sA E i 1) = some (r, S1)) (h2 : fX8_slot S1 (sA E i 1) = some (r, S2)) (k : JR E 20 mL_law 735 [(0, .ref (jX E).1), (1, .ref (E.1 (0, 0))), (2, .ref (E.1 (9, 0))), (3, .int (nI i))] [] S2 [.int 1] S') : JR E 20 mL_law 389 [(0, .ref (jX E).1), (1, .ref (E.1 (0, 0))), (2, .ref (E.1 (9, 0))), (3, .int (nI i))] [] S [.int 1] S' := by
  refine j_aload_n (pc := 389) 1 dL_law_389 rfl rfl ?_
  refine j_aload_n (pc := 390) 0 dL_law_390 rfl rfl ?_
  refine j_iload_n (pc := 391) 3 dL_law_391 rfl rfl ?_
  refine j_iconst (pc := 392) dL_law_392 jci_1 ?_
  refine j_iadd (pc := 393) dL_law_393 ?_
  refine j_sld (pc := 394) dL_law_394 rfl (sIn (j := 1) (by omega) hL) ?_
  refine j_callV (pc := 395) (N := mX7_slot) (rr := (0, 0)) (As := [.int (sA E i 1)]) (rest := []) (v := [.int r]) (S1 := S1) dL_law_395 (kX7_slot hC h1) (by simp) (by decide) okX7_slot tw_586 tw_587 tw_585 (hC (0, 0) rfl) rfl rfl rfl rfl (by simp [Value.category]) ?_
  refine j_aload_n (pc := 398) 2 dL_law_398 rfl rfl ?_
  refine j_aload_n (pc := 399) 0 dL_law_399 rfl rfl ?_
  refine j_iload_n (pc := 400) 3 dL_law_400 rfl rfl ?_
  refine j_iconst (pc := 401) dL_law_401 jci_1 ?_
  refine j_iadd (pc := 402) dL_law_402 ?_
  refine j_sld (pc := 403) dL_law_403 rfl (sIn (j := 1) (by omega) hL) ?_
  refine j_callV (pc := 404) (N := mX8_slot) (rr := (9, 0)) (As := [.int (sA E i 1)]) (rest := [.int r]) (v := [.int r]) (S1 := S2) dL_law_404 (kX8_slot hM h2) (by simp) (by decide) okX8_slot tw_976 tw_977 tw_975 (hM (9, 0) rfl) rfl rfl rfl rfl (by simp [Value.category]) ?_
  exact j_icmp_eq (pc := 407) (tgt := 735) dL_law_407 (by decide) (fun _ => k) (fun c => absurd rfl c)
set_option maxRecDepth 10000 in
set_option maxHeartbeats 4000000 in
theorem lc_412 {E : jE} (hC : jHC E) (hM : jHM E) {i : Nat} (h0 : i + 4 ≤ (jX E).2.1) (hL : (jX E).2.1 ≤ 2048) {S S1 S2 S' : jS} {r : Int32} (h1 : fX7_undo S = some (r, S1)) (h2 : fX8_undo S1 = some (r, S2)) (k : JR E 20 mL_law 735 [(0, .ref (jX E).1), (1, .ref (E.1 (0, 0))), (2, .ref (E.1 (9, 0))), (3, .int (nI i))] [] S2 [.int 1] S') : JR E 20 mL_law 412 [(0, .ref (jX E).1), (1, .ref (E.1 (0, 0))), (2, .ref (E.1 (9, 0))), (3, .int (nI i))] [] S [.int 1] S' := by
  refine j_aload_n (pc := 412) 1 dL_law_412 rfl rfl ?_
  refine j_callV (pc := 413) (N := mX7_undo) (rr := (0, 0)) (As := []) (rest := []) (v := [.int r]) (S1 := S1) dL_law_413 (kX7_undo hC h1) (by simp) (by decide) okX7_undo tw_664 tw_665 tw_663 (hC (0, 0) rfl) rfl rfl rfl rfl (by simp [Value.category]) ?_
  refine j_aload_n (pc := 416) 2 dL_law_416 rfl rfl ?_
  refine j_callV (pc := 417) (N := mX8_undo) (rr := (9, 0)) (As := []) (rest := [.int r]) (v := [.int r]) (S1 := S2) dL_law_417 (kX8_undo hM h2) (by simp) (by decide) okX8_undo tw_906 tw_907 tw_905 (hM (9, 0) rfl) rfl rfl rfl rfl (by simp [Value.category]) ?_
  exact j_icmp_eq (pc := 420) (tgt := 735) dL_law_420 (by decide) (fun _ => k) (fun c => absurd rfl c)
set_option maxRecDepth 10000 in
set_option maxHeartbeats 4000000 in
theorem lc_425 {E : jE} (hC : jHC E) (hM : jHM E) {i : Nat} (h0 : i + 4 ≤ (jX E).2.1) (hL : (jX E).2.1 ≤ 2048) {S S1 S2 S' : jS} {r : Int32} (h1 : fX7_queue S (sA E i 1) (sA E i 2) (sA E i 3) = some (r, S1)) (h2 : fX8_queue S1 (sA E i 1) (sA E i 2) (sA E i 3) = some (r, S2)) (k : JR E 20 mL_law 735 [(0, .ref (jX E).1), (1, .ref (E.1 (0, 0))), (2, .ref (E.1 (9, 0))), (3, .int (nI i))] [] S2 [.int 1] S') : JR E 20 mL_law 425 [(0, .ref (jX E).1), (1, .ref (E.1 (0, 0))), (2, .ref (E.1 (9, 0))), (3, .int (nI i))] [] S [.int 1] S' := by
  refine j_aload_n (pc := 425) 1 dL_law_425 rfl rfl ?_
  refine j_aload_n (pc := 426) 0 dL_law_426 rfl rfl ?_
  refine j_iload_n (pc := 427) 3 dL_law_427 rfl rfl ?_
  refine j_iconst (pc := 428) dL_law_428 jci_1 ?_
  refine j_iadd (pc := 429) dL_law_429 ?_
  refine j_sld (pc := 430) dL_law_430 rfl (sIn (j := 1) (by omega) hL) ?_
  refine j_aload_n (pc := 431) 0 dL_law_431 rfl rfl ?_
  refine j_iload_n (pc := 432) 3 dL_law_432 rfl rfl ?_
  refine j_iconst (pc := 433) dL_law_433 jci_2 ?_
  refine j_iadd (pc := 434) dL_law_434 ?_
  refine j_sld (pc := 435) dL_law_435 rfl (sIn (j := 2) (by omega) hL) ?_
  refine j_aload_n (pc := 436) 0 dL_law_436 rfl rfl ?_
  refine j_iload_n (pc := 437) 3 dL_law_437 rfl rfl ?_
  refine j_iconst (pc := 438) dL_law_438 jci_3 ?_
  refine j_iadd (pc := 439) dL_law_439 ?_
  refine j_sld (pc := 440) dL_law_440 rfl (sIn (j := 3) (by omega) hL) ?_
  refine j_callV (pc := 441) (N := mX7_queue) (rr := (0, 0)) (As := [.int (sA E i 1), .int (sA E i 2), .int (sA E i 3)]) (rest := []) (v := [.int r]) (S1 := S1) dL_law_441 (kX7_queue hC h1) (by simp) (by decide) okX7_queue tw_672 tw_673 tw_671 (hC (0, 0) rfl) rfl rfl rfl rfl (by simp [Value.category]) ?_
  refine j_aload_n (pc := 444) 2 dL_law_444 rfl rfl ?_
  refine j_aload_n (pc := 445) 0 dL_law_445 rfl rfl ?_
  refine j_iload_n (pc := 446) 3 dL_law_446 rfl rfl ?_
  refine j_iconst (pc := 447) dL_law_447 jci_1 ?_
  refine j_iadd (pc := 448) dL_law_448 ?_
  refine j_sld (pc := 449) dL_law_449 rfl (sIn (j := 1) (by omega) hL) ?_
  refine j_aload_n (pc := 450) 0 dL_law_450 rfl rfl ?_
  refine j_iload_n (pc := 451) 3 dL_law_451 rfl rfl ?_
  refine j_iconst (pc := 452) dL_law_452 jci_2 ?_
  refine j_iadd (pc := 453) dL_law_453 ?_
  refine j_sld (pc := 454) dL_law_454 rfl (sIn (j := 2) (by omega) hL) ?_
  refine j_aload_n (pc := 455) 0 dL_law_455 rfl rfl ?_
  refine j_iload_n (pc := 456) 3 dL_law_456 rfl rfl ?_
  refine j_iconst (pc := 457) dL_law_457 jci_3 ?_
  refine j_iadd (pc := 458) dL_law_458 ?_
  refine j_sld (pc := 459) dL_law_459 rfl (sIn (j := 3) (by omega) hL) ?_
  refine j_callV (pc := 460) (N := mX8_queue) (rr := (9, 0)) (As := [.int (sA E i 1), .int (sA E i 2), .int (sA E i 3)]) (rest := [.int r]) (v := [.int r]) (S1 := S2) dL_law_460 (kX8_queue hM h2) (by simp) (by decide) okX8_queue tw_1040 tw_1041 tw_1039 (hM (9, 0) rfl) rfl rfl rfl rfl (by simp [Value.category]) ?_
  exact j_icmp_eq (pc := 463) (tgt := 735) dL_law_463 (by decide) (fun _ => k) (fun c => absurd rfl c)
set_option maxRecDepth 10000 in
set_option maxHeartbeats 4000000 in
theorem lc_468 {E : jE} (hC : jHC E) (hM : jHM E) {i : Nat} (h0 : i + 4 ≤ (jX E).2.1) (hL : (jX E).2.1 ≤ 2048) {S S1 S2 S' : jS} {r : Int32} (h1 : fX7_link S (sA E i 1) (sA E i 2) = some (r, S1)) (h2 : fX8_link S1 (sA E i 1) (sA E i 2) = some (r, S2)) (k : JR E 20 mL_law 735 [(0, .ref (jX E).1), (1, .ref (E.1 (0, 0))), (2, .ref (E.1 (9, 0))), (3, .int (nI i))] [] S2 [.int 1] S') : JR E 20 mL_law 468 [(0, .ref (jX E).1), (1, .ref (E.1 (0, 0))), (2, .ref (E.1 (9, 0))), (3, .int (nI i))] [] S [.int 1] S' := by
  refine j_aload_n (pc := 468) 1 dL_law_468 rfl rfl ?_
  refine j_aload_n (pc := 469) 0 dL_law_469 rfl rfl ?_
  refine j_iload_n (pc := 470) 3 dL_law_470 rfl rfl ?_
  refine j_iconst (pc := 471) dL_law_471 jci_1 ?_
  refine j_iadd (pc := 472) dL_law_472 ?_
  refine j_sld (pc := 473) dL_law_473 rfl (sIn (j := 1) (by omega) hL) ?_
  refine j_aload_n (pc := 474) 0 dL_law_474 rfl rfl ?_
  refine j_iload_n (pc := 475) 3 dL_law_475 rfl rfl ?_
  refine j_iconst (pc := 476) dL_law_476 jci_2 ?_
  refine j_iadd (pc := 477) dL_law_477 ?_
  refine j_sld (pc := 478) dL_law_478 rfl (sIn (j := 2) (by omega) hL) ?_
  refine j_callV (pc := 479) (N := mX7_link) (rr := (0, 0)) (As := [.int (sA E i 1), .int (sA E i 2)]) (rest := []) (v := [.int r]) (S1 := S1) dL_law_479 (kX7_link hC h1) (by simp) (by decide) okX7_link tw_678 tw_679 tw_677 (hC (0, 0) rfl) rfl rfl rfl rfl (by simp [Value.category]) ?_
  refine j_aload_n (pc := 482) 2 dL_law_482 rfl rfl ?_
  refine j_aload_n (pc := 483) 0 dL_law_483 rfl rfl ?_
  refine j_iload_n (pc := 484) 3 dL_law_484 rfl rfl ?_
  refine j_iconst (pc := 485) dL_law_485 jci_1 ?_
  refine j_iadd (pc := 486) dL_law_486 ?_
  refine j_sld (pc := 487) dL_law_487 rfl (sIn (j := 1) (by omega) hL) ?_
  refine j_aload_n (pc := 488) 0 dL_law_488 rfl rfl ?_
  refine j_iload_n (pc := 489) 3 dL_law_489 rfl rfl ?_
  refine j_iconst (pc := 490) dL_law_490 jci_2 ?_
  refine j_iadd (pc := 491) dL_law_491 ?_
  refine j_sld (pc := 492) dL_law_492 rfl (sIn (j := 2) (by omega) hL) ?_
  refine j_callV (pc := 493) (N := mX8_link) (rr := (9, 0)) (As := [.int (sA E i 1), .int (sA E i 2)]) (rest := [.int r]) (v := [.int r]) (S1 := S2) dL_law_493 (kX8_link hM h2) (by simp) (by decide) okX8_link tw_1053 tw_1054 tw_1052 (hM (9, 0) rfl) rfl rfl rfl rfl (by simp [Value.category]) ?_
  exact j_icmp_eq (pc := 496) (tgt := 735) dL_law_496 (by decide) (fun _ => k) (fun c => absurd rfl c)
set_option maxRecDepth 10000 in
set_option maxHeartbeats 4000000 in
theorem lc_501 {E : jE} (hC : jHC E) (hM : jHM E) {i : Nat} (h0 : i + 4 ≤ (jX E).2.1) (hL : (jX E).2.1 ≤ 2048) {S S1 S2 S' : jS} {r : Int32} (h1 : fX7_drop S (sA E i 1) (sA E i 2) = some (r, S1)) (h2 : fX8_drop S1 (sA E i 1) (sA E i 2) = some (r, S2)) (k : JR E 20 mL_law 735 [(0, .ref (jX E).1), (1, .ref (E.1 (0, 0))), (2, .ref (E.1 (9, 0))), (3, .int (nI i))] [] S2 [.int 1] S') : JR E 20 mL_law 501 [(0, .ref (jX E).1), (1, .ref (E.1 (0, 0))), (2, .ref (E.1 (9, 0))), (3, .int (nI i))] [] S [.int 1] S' := by
  refine j_aload_n (pc := 501) 1 dL_law_501 rfl rfl ?_
  refine j_aload_n (pc := 502) 0 dL_law_502 rfl rfl ?_
  refine j_iload_n (pc := 503) 3 dL_law_503 rfl rfl ?_
  refine j_iconst (pc := 504) dL_law_504 jci_1 ?_
  refine j_iadd (pc := 505) dL_law_505 ?_
  refine j_sld (pc := 506) dL_law_506 rfl (sIn (j := 1) (by omega) hL) ?_
  refine j_aload_n (pc := 507) 0 dL_law_507 rfl rfl ?_
  refine j_iload_n (pc := 508) 3 dL_law_508 rfl rfl ?_
  refine j_iconst (pc := 509) dL_law_509 jci_2 ?_
  refine j_iadd (pc := 510) dL_law_510 ?_
  refine j_sld (pc := 511) dL_law_511 rfl (sIn (j := 2) (by omega) hL) ?_
  refine j_callV (pc := 512) (N := mX7_drop) (rr := (0, 0)) (As := [.int (sA E i 1), .int (sA E i 2)]) (rest := []) (v := [.int r]) (S1 := S1) dL_law_512 (kX7_drop hC h1) (by simp) (by decide) okX7_drop tw_688 tw_689 tw_687 (hC (0, 0) rfl) rfl rfl rfl rfl (by simp [Value.category]) ?_
  refine j_aload_n (pc := 515) 2 dL_law_515 rfl rfl ?_
  refine j_aload_n (pc := 516) 0 dL_law_516 rfl rfl ?_
  refine j_iload_n (pc := 517) 3 dL_law_517 rfl rfl ?_
  refine j_iconst (pc := 518) dL_law_518 jci_1 ?_
  refine j_iadd (pc := 519) dL_law_519 ?_
  refine j_sld (pc := 520) dL_law_520 rfl (sIn (j := 1) (by omega) hL) ?_
  refine j_aload_n (pc := 521) 0 dL_law_521 rfl rfl ?_
  refine j_iload_n (pc := 522) 3 dL_law_522 rfl rfl ?_
  refine j_iconst (pc := 523) dL_law_523 jci_2 ?_
  refine j_iadd (pc := 524) dL_law_524 ?_
  refine j_sld (pc := 525) dL_law_525 rfl (sIn (j := 2) (by omega) hL) ?_
  refine j_callV (pc := 526) (N := mX8_drop) (rr := (9, 0)) (As := [.int (sA E i 1), .int (sA E i 2)]) (rest := [.int r]) (v := [.int r]) (S1 := S2) dL_law_526 (kX8_drop hM h2) (by simp) (by decide) okX8_drop tw_1062 tw_1063 tw_1061 (hM (9, 0) rfl) rfl rfl rfl rfl (by simp [Value.category]) ?_
  exact j_icmp_eq (pc := 529) (tgt := 735) dL_law_529 (by decide) (fun _ => k) (fun c => absurd rfl c)
set_option maxRecDepth 10000 in
set_option maxHeartbeats 4000000 in
theorem lc_534 {E : jE} (hC : jHC E) (hM : jHM E) {i : Nat} (h0 : i + 4 ≤ (jX E).2.1) (hL : (jX E).2.1 ≤ 2048) {S S1 S2 S' : jS} {r : Int32} (h1 : fX7_goes S (sA E i 1) = some (r, S1)) (h2 : fX8_goes S1 (sA E i 1) = some (r, S2)) (k : JR E 20 mL_law 735 [(0, .ref (jX E).1), (1, .ref (E.1 (0, 0))), (2, .ref (E.1 (9, 0))), (3, .int (nI i))] [] S2 [.int 1] S') : JR E 20 mL_law 534 [(0, .ref (jX E).1), (1, .ref (E.1 (0, 0))), (2, .ref (E.1 (9, 0))), (3, .int (nI i))] [] S [.int 1] S' := by
  refine j_aload_n (pc := 534) 1 dL_law_534 rfl rfl ?_
  refine j_aload_n (pc := 535) 0 dL_law_535 rfl rfl ?_
  refine j_iload_n (pc := 536) 3 dL_law_536 rfl rfl ?_
  refine j_iconst (pc := 537) dL_law_537 jci_1 ?_
  refine j_iadd (pc := 538) dL_law_538 ?_
  refine j_sld (pc := 539) dL_law_539 rfl (sIn (j := 1) (by omega) hL) ?_
  refine j_callV (pc := 540) (N := mX7_goes) (rr := (0, 0)) (As := [.int (sA E i 1)]) (rest := []) (v := [.int r]) (S1 := S1) dL_law_540 (kX7_goes hC h1) (by simp) (by decide) okX7_goes tw_694 tw_695 tw_693 (hC (0, 0) rfl) rfl rfl rfl rfl (by simp [Value.category]) ?_
  refine j_aload_n (pc := 543) 2 dL_law_543 rfl rfl ?_
  refine j_aload_n (pc := 544) 0 dL_law_544 rfl rfl ?_
  refine j_iload_n (pc := 545) 3 dL_law_545 rfl rfl ?_
  refine j_iconst (pc := 546) dL_law_546 jci_1 ?_
  refine j_iadd (pc := 547) dL_law_547 ?_
  refine j_sld (pc := 548) dL_law_548 rfl (sIn (j := 1) (by omega) hL) ?_
  refine j_callV (pc := 549) (N := mX8_goes) (rr := (9, 0)) (As := [.int (sA E i 1)]) (rest := [.int r]) (v := [.int r]) (S1 := S2) dL_law_549 (kX8_goes hM h2) (by simp) (by decide) okX8_goes tw_1066 tw_1067 tw_1065 (hM (9, 0) rfl) rfl rfl rfl rfl (by simp [Value.category]) ?_
  exact j_icmp_eq (pc := 552) (tgt := 735) dL_law_552 (by decide) (fun _ => k) (fun c => absurd rfl c)
set_option maxRecDepth 10000 in
set_option maxHeartbeats 4000000 in
theorem lc_557 {E : jE} (hC : jHC E) (hM : jHM E) {i : Nat} (h0 : i + 4 ≤ (jX E).2.1) (hL : (jX E).2.1 ≤ 2048) {S S1 S2 S' : jS} {r : Int32} (h1 : fX7_goal S (sA E i 1) (sA E i 2) = some (r, S1)) (h2 : fX8_goal S1 (sA E i 1) (sA E i 2) = some (r, S2)) (k : JR E 20 mL_law 735 [(0, .ref (jX E).1), (1, .ref (E.1 (0, 0))), (2, .ref (E.1 (9, 0))), (3, .int (nI i))] [] S2 [.int 1] S') : JR E 20 mL_law 557 [(0, .ref (jX E).1), (1, .ref (E.1 (0, 0))), (2, .ref (E.1 (9, 0))), (3, .int (nI i))] [] S [.int 1] S' := by
  refine j_aload_n (pc := 557) 1 dL_law_557 rfl rfl ?_
  refine j_aload_n (pc := 558) 0 dL_law_558 rfl rfl ?_
  refine j_iload_n (pc := 559) 3 dL_law_559 rfl rfl ?_
  refine j_iconst (pc := 560) dL_law_560 jci_1 ?_
  refine j_iadd (pc := 561) dL_law_561 ?_
  refine j_sld (pc := 562) dL_law_562 rfl (sIn (j := 1) (by omega) hL) ?_
  refine j_aload_n (pc := 563) 0 dL_law_563 rfl rfl ?_
  refine j_iload_n (pc := 564) 3 dL_law_564 rfl rfl ?_
  refine j_iconst (pc := 565) dL_law_565 jci_2 ?_
  refine j_iadd (pc := 566) dL_law_566 ?_
  refine j_sld (pc := 567) dL_law_567 rfl (sIn (j := 2) (by omega) hL) ?_
  refine j_callV (pc := 568) (N := mX7_goal) (rr := (0, 0)) (As := [.int (sA E i 1), .int (sA E i 2)]) (rest := []) (v := [.int r]) (S1 := S1) dL_law_568 (kX7_goal hC h1) (by simp) (by decide) okX7_goal tw_698 tw_699 tw_697 (hC (0, 0) rfl) rfl rfl rfl rfl (by simp [Value.category]) ?_
  refine j_aload_n (pc := 571) 2 dL_law_571 rfl rfl ?_
  refine j_aload_n (pc := 572) 0 dL_law_572 rfl rfl ?_
  refine j_iload_n (pc := 573) 3 dL_law_573 rfl rfl ?_
  refine j_iconst (pc := 574) dL_law_574 jci_1 ?_
  refine j_iadd (pc := 575) dL_law_575 ?_
  refine j_sld (pc := 576) dL_law_576 rfl (sIn (j := 1) (by omega) hL) ?_
  refine j_aload_n (pc := 577) 0 dL_law_577 rfl rfl ?_
  refine j_iload_n (pc := 578) 3 dL_law_578 rfl rfl ?_
  refine j_iconst (pc := 579) dL_law_579 jci_2 ?_
  refine j_iadd (pc := 580) dL_law_580 ?_
  refine j_sld (pc := 581) dL_law_581 rfl (sIn (j := 2) (by omega) hL) ?_
  refine j_callV (pc := 582) (N := mX8_goal) (rr := (9, 0)) (As := [.int (sA E i 1), .int (sA E i 2)]) (rest := [.int r]) (v := [.int r]) (S1 := S2) dL_law_582 (kX8_goal hM h2) (by simp) (by decide) okX8_goal tw_1070 tw_1071 tw_1069 (hM (9, 0) rfl) rfl rfl rfl rfl (by simp [Value.category]) ?_
  exact j_icmp_eq (pc := 585) (tgt := 735) dL_law_585 (by decide) (fun _ => k) (fun c => absurd rfl c)
set_option maxRecDepth 10000 in
set_option maxHeartbeats 4000000 in
theorem lc_590 {E : jE} (hC : jHC E) (hM : jHM E) {i : Nat} (h0 : i + 4 ≤ (jX E).2.1) (hL : (jX E).2.1 ≤ 2048) {S S1 S2 S' : jS} {r : Int32} (h1 : fX7_ahead S (sA E i 1) (sA E i 2) = some (r, S1)) (h2 : fX8_ahead S1 (sA E i 1) (sA E i 2) = some (r, S2)) (k : JR E 20 mL_law 735 [(0, .ref (jX E).1), (1, .ref (E.1 (0, 0))), (2, .ref (E.1 (9, 0))), (3, .int (nI i))] [] S2 [.int 1] S') : JR E 20 mL_law 590 [(0, .ref (jX E).1), (1, .ref (E.1 (0, 0))), (2, .ref (E.1 (9, 0))), (3, .int (nI i))] [] S [.int 1] S' := by
  refine j_aload_n (pc := 590) 1 dL_law_590 rfl rfl ?_
  refine j_aload_n (pc := 591) 0 dL_law_591 rfl rfl ?_
  refine j_iload_n (pc := 592) 3 dL_law_592 rfl rfl ?_
  refine j_iconst (pc := 593) dL_law_593 jci_1 ?_
  refine j_iadd (pc := 594) dL_law_594 ?_
  refine j_sld (pc := 595) dL_law_595 rfl (sIn (j := 1) (by omega) hL) ?_
  refine j_aload_n (pc := 596) 0 dL_law_596 rfl rfl ?_
  refine j_iload_n (pc := 597) 3 dL_law_597 rfl rfl ?_
  refine j_iconst (pc := 598) dL_law_598 jci_2 ?_
  refine j_iadd (pc := 599) dL_law_599 ?_
  refine j_sld (pc := 600) dL_law_600 rfl (sIn (j := 2) (by omega) hL) ?_
  refine j_callV (pc := 601) (N := mX7_ahead) (rr := (0, 0)) (As := [.int (sA E i 1), .int (sA E i 2)]) (rest := []) (v := [.int r]) (S1 := S1) dL_law_601 (kX7_ahead hC h1) (by simp) (by decide) okX7_ahead tw_707 tw_708 tw_706 (hC (0, 0) rfl) rfl rfl rfl rfl (by simp [Value.category]) ?_
  refine j_aload_n (pc := 604) 2 dL_law_604 rfl rfl ?_
  refine j_aload_n (pc := 605) 0 dL_law_605 rfl rfl ?_
  refine j_iload_n (pc := 606) 3 dL_law_606 rfl rfl ?_
  refine j_iconst (pc := 607) dL_law_607 jci_1 ?_
  refine j_iadd (pc := 608) dL_law_608 ?_
  refine j_sld (pc := 609) dL_law_609 rfl (sIn (j := 1) (by omega) hL) ?_
  refine j_aload_n (pc := 610) 0 dL_law_610 rfl rfl ?_
  refine j_iload_n (pc := 611) 3 dL_law_611 rfl rfl ?_
  refine j_iconst (pc := 612) dL_law_612 jci_2 ?_
  refine j_iadd (pc := 613) dL_law_613 ?_
  refine j_sld (pc := 614) dL_law_614 rfl (sIn (j := 2) (by omega) hL) ?_
  refine j_callV (pc := 615) (N := mX8_ahead) (rr := (9, 0)) (As := [.int (sA E i 1), .int (sA E i 2)]) (rest := [.int r]) (v := [.int r]) (S1 := S2) dL_law_615 (kX8_ahead hM h2) (by simp) (by decide) okX8_ahead tw_1079 tw_1080 tw_1078 (hM (9, 0) rfl) rfl rfl rfl rfl (by simp [Value.category]) ?_
  exact j_icmp_eq (pc := 618) (tgt := 735) dL_law_618 (by decide) (fun _ => k) (fun c => absurd rfl c)
set_option maxRecDepth 10000 in
set_option maxHeartbeats 4000000 in
theorem lc_623 {E : jE} (hC : jHC E) (hM : jHM E) {i : Nat} (h0 : i + 4 ≤ (jX E).2.1) (hL : (jX E).2.1 ≤ 2048) {S S1 S2 S' : jS} {r : Int32} (h1 : fX7_without S (sA E i 1) = some (r, S1)) (h2 : fX8_without S1 (sA E i 1) = some (r, S2)) (k : JR E 20 mL_law 735 [(0, .ref (jX E).1), (1, .ref (E.1 (0, 0))), (2, .ref (E.1 (9, 0))), (3, .int (nI i))] [] S2 [.int 1] S') : JR E 20 mL_law 623 [(0, .ref (jX E).1), (1, .ref (E.1 (0, 0))), (2, .ref (E.1 (9, 0))), (3, .int (nI i))] [] S [.int 1] S' := by
  refine j_aload_n (pc := 623) 1 dL_law_623 rfl rfl ?_
  refine j_aload_n (pc := 624) 0 dL_law_624 rfl rfl ?_
  refine j_iload_n (pc := 625) 3 dL_law_625 rfl rfl ?_
  refine j_iconst (pc := 626) dL_law_626 jci_1 ?_
  refine j_iadd (pc := 627) dL_law_627 ?_
  refine j_sld (pc := 628) dL_law_628 rfl (sIn (j := 1) (by omega) hL) ?_
  refine j_callV (pc := 629) (N := mX7_without) (rr := (0, 0)) (As := [.int (sA E i 1)]) (rest := []) (v := [.int r]) (S1 := S1) dL_law_629 (kX7_without hC h1) (by simp) (by decide) okX7_without tw_725 tw_726 tw_724 (hC (0, 0) rfl) rfl rfl rfl rfl (by simp [Value.category]) ?_
  refine j_aload_n (pc := 632) 2 dL_law_632 rfl rfl ?_
  refine j_aload_n (pc := 633) 0 dL_law_633 rfl rfl ?_
  refine j_iload_n (pc := 634) 3 dL_law_634 rfl rfl ?_
  refine j_iconst (pc := 635) dL_law_635 jci_1 ?_
  refine j_iadd (pc := 636) dL_law_636 ?_
  refine j_sld (pc := 637) dL_law_637 rfl (sIn (j := 1) (by omega) hL) ?_
  refine j_callV (pc := 638) (N := mX8_without) (rr := (9, 0)) (As := [.int (sA E i 1)]) (rest := [.int r]) (v := [.int r]) (S1 := S2) dL_law_638 (kX8_without hM h2) (by simp) (by decide) okX8_without tw_1099 tw_1100 tw_1098 (hM (9, 0) rfl) rfl rfl rfl rfl (by simp [Value.category]) ?_
  exact j_icmp_eq (pc := 641) (tgt := 735) dL_law_641 (by decide) (fun _ => k) (fun c => absurd rfl c)
set_option maxRecDepth 10000 in
set_option maxHeartbeats 4000000 in
theorem lc_646 {E : jE} (hC : jHC E) (hM : jHM E) {i : Nat} (h0 : i + 4 ≤ (jX E).2.1) (hL : (jX E).2.1 ≤ 2048) {S S1 S2 S' : jS} {r : Int32} (h1 : fX7_worst S (sA E i 1) = some (r, S1)) (h2 : fX8_worst S1 (sA E i 1) = some (r, S2)) (k : JR E 20 mL_law 735 [(0, .ref (jX E).1), (1, .ref (E.1 (0, 0))), (2, .ref (E.1 (9, 0))), (3, .int (nI i))] [] S2 [.int 1] S') : JR E 20 mL_law 646 [(0, .ref (jX E).1), (1, .ref (E.1 (0, 0))), (2, .ref (E.1 (9, 0))), (3, .int (nI i))] [] S [.int 1] S' := by
  refine j_aload_n (pc := 646) 1 dL_law_646 rfl rfl ?_
  refine j_aload_n (pc := 647) 0 dL_law_647 rfl rfl ?_
  refine j_iload_n (pc := 648) 3 dL_law_648 rfl rfl ?_
  refine j_iconst (pc := 649) dL_law_649 jci_1 ?_
  refine j_iadd (pc := 650) dL_law_650 ?_
  refine j_sld (pc := 651) dL_law_651 rfl (sIn (j := 1) (by omega) hL) ?_
  refine j_callV (pc := 652) (N := mX7_worst) (rr := (0, 0)) (As := [.int (sA E i 1)]) (rest := []) (v := [.int r]) (S1 := S1) dL_law_652 (kX7_worst hC h1) (by simp) (by decide) okX7_worst tw_729 tw_730 tw_728 (hC (0, 0) rfl) rfl rfl rfl rfl (by simp [Value.category]) ?_
  refine j_aload_n (pc := 655) 2 dL_law_655 rfl rfl ?_
  refine j_aload_n (pc := 656) 0 dL_law_656 rfl rfl ?_
  refine j_iload_n (pc := 657) 3 dL_law_657 rfl rfl ?_
  refine j_iconst (pc := 658) dL_law_658 jci_1 ?_
  refine j_iadd (pc := 659) dL_law_659 ?_
  refine j_sld (pc := 660) dL_law_660 rfl (sIn (j := 1) (by omega) hL) ?_
  refine j_callV (pc := 661) (N := mX8_worst) (rr := (9, 0)) (As := [.int (sA E i 1)]) (rest := [.int r]) (v := [.int r]) (S1 := S2) dL_law_661 (kX8_worst hM h2) (by simp) (by decide) okX8_worst tw_1103 tw_1104 tw_1102 (hM (9, 0) rfl) rfl rfl rfl rfl (by simp [Value.category]) ?_
  exact j_icmp_eq (pc := 664) (tgt := 735) dL_law_664 (by decide) (fun _ => k) (fun c => absurd rfl c)
set_option maxRecDepth 10000 in
set_option maxHeartbeats 4000000 in
theorem lc_669 {E : jE} (hC : jHC E) (hM : jHM E) {i : Nat} (h0 : i + 4 ≤ (jX E).2.1) (hL : (jX E).2.1 ≤ 2048) {S S1 S2 S' : jS} {r : Int32} (h1 : fX7_drawn S (sA E i 1) (sA E i 2) (sA E i 3) = some (r, S1)) (h2 : fX8_drawn S1 (sA E i 1) (sA E i 2) (sA E i 3) = some (r, S2)) (k : JR E 20 mL_law 735 [(0, .ref (jX E).1), (1, .ref (E.1 (0, 0))), (2, .ref (E.1 (9, 0))), (3, .int (nI i))] [] S2 [.int 1] S') : JR E 20 mL_law 669 [(0, .ref (jX E).1), (1, .ref (E.1 (0, 0))), (2, .ref (E.1 (9, 0))), (3, .int (nI i))] [] S [.int 1] S' := by
  refine j_aload_n (pc := 669) 1 dL_law_669 rfl rfl ?_
  refine j_aload_n (pc := 670) 0 dL_law_670 rfl rfl ?_
  refine j_iload_n (pc := 671) 3 dL_law_671 rfl rfl ?_
  refine j_iconst (pc := 672) dL_law_672 jci_1 ?_
  refine j_iadd (pc := 673) dL_law_673 ?_
  refine j_sld (pc := 674) dL_law_674 rfl (sIn (j := 1) (by omega) hL) ?_
  refine j_aload_n (pc := 675) 0 dL_law_675 rfl rfl ?_
  refine j_iload_n (pc := 676) 3 dL_law_676 rfl rfl ?_
  refine j_iconst (pc := 677) dL_law_677 jci_2 ?_
  refine j_iadd (pc := 678) dL_law_678 ?_
  refine j_sld (pc := 679) dL_law_679 rfl (sIn (j := 2) (by omega) hL) ?_
  refine j_aload_n (pc := 680) 0 dL_law_680 rfl rfl ?_
  refine j_iload_n (pc := 681) 3 dL_law_681 rfl rfl ?_
  refine j_iconst (pc := 682) dL_law_682 jci_3 ?_
  refine j_iadd (pc := 683) dL_law_683 ?_
  refine j_sld (pc := 684) dL_law_684 rfl (sIn (j := 3) (by omega) hL) ?_
  refine j_callV (pc := 685) (N := mX7_drawn) (rr := (0, 0)) (As := [.int (sA E i 1), .int (sA E i 2), .int (sA E i 3)]) (rest := []) (v := [.int r]) (S1 := S1) dL_law_685 (kX7_drawn hC h1) (by simp) (by decide) okX7_drawn tw_737 tw_738 tw_736 (hC (0, 0) rfl) rfl rfl rfl rfl (by simp [Value.category]) ?_
  refine j_aload_n (pc := 688) 2 dL_law_688 rfl rfl ?_
  refine j_aload_n (pc := 689) 0 dL_law_689 rfl rfl ?_
  refine j_iload_n (pc := 690) 3 dL_law_690 rfl rfl ?_
  refine j_iconst (pc := 691) dL_law_691 jci_1 ?_
  refine j_iadd (pc := 692) dL_law_692 ?_
  refine j_sld (pc := 693) dL_law_693 rfl (sIn (j := 1) (by omega) hL) ?_
  refine j_aload_n (pc := 694) 0 dL_law_694 rfl rfl ?_
  refine j_iload_n (pc := 695) 3 dL_law_695 rfl rfl ?_
  refine j_iconst (pc := 696) dL_law_696 jci_2 ?_
  refine j_iadd (pc := 697) dL_law_697 ?_
  refine j_sld (pc := 698) dL_law_698 rfl (sIn (j := 2) (by omega) hL) ?_
  refine j_aload_n (pc := 699) 0 dL_law_699 rfl rfl ?_
  refine j_iload_n (pc := 700) 3 dL_law_700 rfl rfl ?_
  refine j_iconst (pc := 701) dL_law_701 jci_3 ?_
  refine j_iadd (pc := 702) dL_law_702 ?_
  refine j_sld (pc := 703) dL_law_703 rfl (sIn (j := 3) (by omega) hL) ?_
  refine j_callV (pc := 704) (N := mX8_drawn) (rr := (9, 0)) (As := [.int (sA E i 1), .int (sA E i 2), .int (sA E i 3)]) (rest := [.int r]) (v := [.int r]) (S1 := S2) dL_law_704 (kX8_drawn hM h2) (by simp) (by decide) okX8_drawn tw_1108 tw_1109 tw_1107 (hM (9, 0) rfl) rfl rfl rfl rfl (by simp [Value.category]) ?_
  exact j_icmp_eq (pc := 707) (tgt := 735) dL_law_707 (by decide) (fun _ => k) (fun c => absurd rfl c)
set_option maxRecDepth 10000 in
set_option maxHeartbeats 4000000 in
theorem lc_712 {E : jE} (hC : jHC E) (hM : jHM E) {i : Nat} (h0 : i + 4 ≤ (jX E).2.1) (hL : (jX E).2.1 ≤ 2048) {S S1 S2 S' : jS} {r : Int32} (h1 : fX7_count S (sA E i 1) = some (r, S1)) (h2 : fX8_count S1 (sA E i 1) = some (r, S2)) (k : JR E 20 mL_law 735 [(0, .ref (jX E).1), (1, .ref (E.1 (0, 0))), (2, .ref (E.1 (9, 0))), (3, .int (nI i))] [] S2 [.int 1] S') : JR E 20 mL_law 712 [(0, .ref (jX E).1), (1, .ref (E.1 (0, 0))), (2, .ref (E.1 (9, 0))), (3, .int (nI i))] [] S [.int 1] S' := by
  refine j_aload_n (pc := 712) 1 dL_law_712 rfl rfl ?_
  refine j_aload_n (pc := 713) 0 dL_law_713 rfl rfl ?_
  refine j_iload_n (pc := 714) 3 dL_law_714 rfl rfl ?_
  refine j_iconst (pc := 715) dL_law_715 jci_1 ?_
  refine j_iadd (pc := 716) dL_law_716 ?_
  refine j_sld (pc := 717) dL_law_717 rfl (sIn (j := 1) (by omega) hL) ?_
  refine j_callV (pc := 718) (N := mX7_count) (rr := (0, 0)) (As := [.int (sA E i 1)]) (rest := []) (v := [.int r]) (S1 := S1) dL_law_718 (kX7_count hC h1) (by simp) (by decide) okX7_count tw_749 tw_750 tw_748 (hC (0, 0) rfl) rfl rfl rfl rfl (by simp [Value.category]) ?_
  refine j_aload_n (pc := 721) 2 dL_law_721 rfl rfl ?_
  refine j_aload_n (pc := 722) 0 dL_law_722 rfl rfl ?_
  refine j_iload_n (pc := 723) 3 dL_law_723 rfl rfl ?_
  refine j_iconst (pc := 724) dL_law_724 jci_1 ?_
  refine j_iadd (pc := 725) dL_law_725 ?_
  refine j_sld (pc := 726) dL_law_726 rfl (sIn (j := 1) (by omega) hL) ?_
  refine j_callV (pc := 727) (N := mX8_count) (rr := (9, 0)) (As := [.int (sA E i 1)]) (rest := [.int r]) (v := [.int r]) (S1 := S2) dL_law_727 (kX8_count hM h2) (by simp) (by decide) okX8_count tw_1122 tw_1123 tw_1121 (hM (9, 0) rfl) rfl rfl rfl rfl (by simp [Value.category]) ?_
  exact j_icmp_eq (pc := 730) (tgt := 735) dL_law_730 (by decide) (fun _ => k) (fun c => absurd rfl c)
theorem law_735 {E : jE} {i : Nat} {S S' : jS} (k : JR E 20 mL_law 18 [(0, .ref (jX E).1), (1, .ref (E.1 (0, 0))), (2, .ref (E.1 (9, 0))), (3, .int (nI (i + 4)))] [] S [.int 1] S') : JR E 20 mL_law 735 [(0, .ref (jX E).1), (1, .ref (E.1 (0, 0))), (2, .ref (E.1 (9, 0))), (3, .int (nI i))] [] S [.int 1] S' := by
  refine j_iinc (pc := 735) (v := nI (i + 4)) (lv' := [(3, .int (nI (i + 4))), (0, .ref (jX E).1), (1, .ref (E.1 (0, 0))), (2, .ref (E.1 (9, 0)))]) 3 dL_law_735 rfl (nI_add i 4) (by decide) rfl ?_
  refine j_goto (pc := 738) (tgt := 18) dL_law_738 (by decide) ?_
  exact j_sub [1, 2, 3, 0] rfl k
theorem law_head {E : jE} {i : Nat} (h0 : i + 4 ≤ (jX E).2.1) (hL : (jX E).2.1 ≤ 2048) {S S' : jS} (k : JR E 20 mL_law 32 [(0, .ref (jX E).1), (1, .ref (E.1 (0, 0))), (2, .ref (E.1 (9, 0))), (3, .int (nI i))] [.int (sA E i 0 &&& 31)] S [.int 1] S') : JR E 20 mL_law 18 [(0, .ref (jX E).1), (1, .ref (E.1 (0, 0))), (2, .ref (E.1 (9, 0))), (3, .int (nI i))] [] S [.int 1] S' := by
  refine j_iload_n (pc := 18) 3 dL_law_18 rfl rfl ?_
  refine j_aload_n (pc := 19) 0 dL_law_19 rfl rfl ?_
  refine j_slen (pc := 20) dL_law_20 rfl ?_
  refine j_iconst (pc := 21) dL_law_21 jci_4 ?_
  refine j_isub (pc := 22) dL_law_22 ?_
  refine j_icmp_gt (pc := 23) (tgt := 741) dL_law_23 (by decide) (fun c => ?_) (fun _ => ?_)
  · have := (law_gt hL (by omega)).mp c
    omega
  refine j_aload_n (pc := 26) 0 dL_law_26 rfl rfl ?_
  refine j_iload_n (pc := 27) 3 dL_law_27 rfl rfl ?_
  refine j_sld (pc := 28) dL_law_28 rfl (jIn_lit (by omega) (by omega)) ?_
  refine j_bipush (pc := 29) dL_law_29 jcb_31 ?_
  refine j_iand (pc := 31) dL_law_31 ?_
  have e : (jX E).2.2 (nI i).toNatClampNeg = sA E i 0 := by
    unfold sA
    rw [nI_add]
    rfl
  rw [e]
  exact k
theorem law_exit {E : jE} {i : Nat} (h0 : (jX E).2.1 < i + 4) (hi : i ≤ 2048) (hL : (jX E).2.1 ≤ 2048) {S : jS} : JR E 20 mL_law 18 [(0, .ref (jX E).1), (1, .ref (E.1 (0, 0))), (2, .ref (E.1 (9, 0))), (3, .int (nI i))] [] S [.int 1] S := by
  refine j_iload_n (pc := 18) 3 dL_law_18 rfl rfl ?_
  refine j_aload_n (pc := 19) 0 dL_law_19 rfl rfl ?_
  refine j_slen (pc := 20) dL_law_20 rfl ?_
  refine j_iconst (pc := 21) dL_law_21 jci_4 ?_
  refine j_isub (pc := 22) dL_law_22 ?_
  refine j_icmp_gt (pc := 23) (tgt := 741) dL_law_23 (by decide) (fun _ => ?_) (fun c => absurd ((law_gt hL (by omega)).mpr h0) c)
  refine j_iconst (pc := 741) dL_law_741 jci_1 ?_
  exact j_iret (pc := 742) dL_law_742 rfl rfl
set_option maxRecDepth 10000 in
set_option maxHeartbeats 4000000 in
theorem law_loop {E : jE} (hC : jHC E) (hM : jHM E) (hL : (jX E).2.1 ≤ 2048) : ∀ (d N : Nat) (S : jS), SM N S → (jX E).2.1 ≤ 4 * N + 4 * d → 4 * N ≤ (jX E).2.1 → ∃ S', JR E 20 mL_law 18 [(0, .ref (jX E).1), (1, .ref (E.1 (0, 0))), (2, .ref (E.1 (9, 0))), (3, .int (nI (4 * N)))] [] S [.int 1] S' := by
  intro d
  induction d with
  | zero =>
    intro N S h1 h2 h3
    exact ⟨S, law_exit (by omega) (by omega) hL⟩
  | succ d ih =>
    intro N S h1 h2 h3
    by_cases c : (jX E).2.1 < 4 * N + 4
    · exact ⟨S, law_exit (by omega) (by omega) hL⟩
    have h0 : 4 * N + 4 ≤ (jX E).2.1 := by omega
    have go : ∀ S2 : jS, SM (N + 1) S2 → ∃ S', JR E 20 mL_law 735 [(0, .ref (jX E).1), (1, .ref (E.1 (0, 0))), (2, .ref (E.1 (9, 0))), (3, .int (nI (4 * N)))] [] S2 [.int 1] S' := by
      intro S2 h4
      obtain ⟨S', h5⟩ := ih (N + 1) S2 h4 (by omega) (by omega)
      exact ⟨S', law_735 h5⟩
    by_cases c0 : sA E (4 * N) 0 &&& 31 = 0
    · obtain ⟨r, S1, S2, z1, z2, z3⟩ := z_write h1 (sA E (4 * N) 1)
      obtain ⟨S', k⟩ := go S2 z3
      refine ⟨S', law_head h0 hL ?_⟩
      refine j_tabIn (pc := 32) (tgt := 132) (off := 100) dL_law_32 (by rw [c0]; decide) (by rw [c0]; decide) (by rw [c0]; rfl) (by decide) ?_
      exact lc_132 hC hM h0 hL z1 z2 k
    by_cases c1 : sA E (4 * N) 0 &&& 31 = 1
    · obtain ⟨r, S1, S2, z1, z2, z3⟩ := z_wipe h1
      obtain ⟨S', k⟩ := go S2 z3
      refine ⟨S', law_head h0 hL ?_⟩
      refine j_tabIn (pc := 32) (tgt := 155) (off := 123) dL_law_32 (by rw [c1]; decide) (by rw [c1]; decide) (by rw [c1]; rfl) (by decide) ?_
      exact lc_155 hC hM h0 hL z1 z2 k
    by_cases c2 : sA E (4 * N) 0 &&& 31 = 2
    · obtain ⟨r, S1, S2, z1, z2, z3⟩ := z_fault h1
      obtain ⟨S', k⟩ := go S2 z3
      refine ⟨S', law_head h0 hL ?_⟩
      refine j_tabIn (pc := 32) (tgt := 168) (off := 136) dL_law_32 (by rw [c2]; decide) (by rw [c2]; decide) (by rw [c2]; rfl) (by decide) ?_
      exact lc_168 hC hM h0 hL z1 z2 k
    by_cases c3 : sA E (4 * N) 0 &&& 31 = 3
    · obtain ⟨r, S1, S2, z1, z2, z3⟩ := z_lay h1
      obtain ⟨S', k⟩ := go S2 z3
      refine ⟨S', law_head h0 hL ?_⟩
      refine j_tabIn (pc := 32) (tgt := 181) (off := 149) dL_law_32 (by rw [c3]; decide) (by rw [c3]; decide) (by rw [c3]; rfl) (by decide) ?_
      exact lc_181 hC hM h0 hL z1 z2 k
    by_cases c4 : sA E (4 * N) 0 &&& 31 = 4
    · obtain ⟨r, S1, S2, z1, z2, z3⟩ := z_feed h1 (sA E (4 * N) 1) (sA E (4 * N) 2) (sA E (4 * N) 3)
      obtain ⟨S', k⟩ := go S2 z3
      refine ⟨S', law_head h0 hL ?_⟩
      refine j_tabIn (pc := 32) (tgt := 194) (off := 162) dL_law_32 (by rw [c4]; decide) (by rw [c4]; decide) (by rw [c4]; rfl) (by decide) ?_
      exact lc_194 hC hM h0 hL z1 z2 k
    by_cases c5 : sA E (4 * N) 0 &&& 31 = 5
    · obtain ⟨r, S1, S2, z1, z2, z3⟩ := z_room h1 (sA E (4 * N) 1) (sA E (4 * N) 2)
      obtain ⟨S', k⟩ := go S2 z3
      refine ⟨S', law_head h0 hL ?_⟩
      refine j_tabIn (pc := 32) (tgt := 237) (off := 205) dL_law_32 (by rw [c5]; decide) (by rw [c5]; decide) (by rw [c5]; rfl) (by decide) ?_
      exact lc_237 hC hM h0 hL z1 z2 k
    by_cases c6 : sA E (4 * N) 0 &&& 31 = 6
    · obtain ⟨r, S1, S2, z1, z2, z3⟩ := z_tell h1 (sA E (4 * N) 1) (sA E (4 * N) 2)
      obtain ⟨S', k⟩ := go S2 z3
      refine ⟨S', law_head h0 hL ?_⟩
      refine j_tabIn (pc := 32) (tgt := 270) (off := 238) dL_law_32 (by rw [c6]; decide) (by rw [c6]; decide) (by rw [c6]; rfl) (by decide) ?_
      exact lc_270 hC hM h0 hL z1 z2 k
    by_cases c7 : sA E (4 * N) 0 &&& 31 = 7
    · obtain ⟨r, S1, S2, z1, z2, z3⟩ := z_clash h1 (sA E (4 * N) 1) (sA E (4 * N) 2) (sA E (4 * N) 3)
      obtain ⟨S', k⟩ := go S2 z3
      refine ⟨S', law_head h0 hL ?_⟩
      refine j_tabIn (pc := 32) (tgt := 303) (off := 271) dL_law_32 (by rw [c7]; decide) (by rw [c7]; decide) (by rw [c7]; rfl) (by decide) ?_
      exact lc_303 hC hM h0 hL z1 z2 k
    by_cases c8 : sA E (4 * N) 0 &&& 31 = 8
    · obtain ⟨r, S1, S2, z1, z2, z3⟩ := z_put h1 (sA E (4 * N) 1) (sA E (4 * N) 2) (sA E (4 * N) 3)
      obtain ⟨S', k⟩ := go S2 z3
      refine ⟨S', law_head h0 hL ?_⟩
      refine j_tabIn (pc := 32) (tgt := 346) (off := 314) dL_law_32 (by rw [c8]; decide) (by rw [c8]; decide) (by rw [c8]; rfl) (by decide) ?_
      exact lc_346 hC hM h0 hL z1 z2 k
    by_cases c9 : sA E (4 * N) 0 &&& 31 = 9
    · obtain ⟨r, S1, S2, z1, z2, z3⟩ := z_slot h1 (by omega) (sA E (4 * N) 1)
      obtain ⟨S', k⟩ := go S2 z3
      refine ⟨S', law_head h0 hL ?_⟩
      refine j_tabIn (pc := 32) (tgt := 389) (off := 357) dL_law_32 (by rw [c9]; decide) (by rw [c9]; decide) (by rw [c9]; rfl) (by decide) ?_
      exact lc_389 hC hM h0 hL z1 z2 k
    by_cases c10 : sA E (4 * N) 0 &&& 31 = 10
    · obtain ⟨r, S1, S2, z1, z2, z3⟩ := z_undo h1
      obtain ⟨S', k⟩ := go S2 z3
      refine ⟨S', law_head h0 hL ?_⟩
      refine j_tabIn (pc := 32) (tgt := 412) (off := 380) dL_law_32 (by rw [c10]; decide) (by rw [c10]; decide) (by rw [c10]; rfl) (by decide) ?_
      exact lc_412 hC hM h0 hL z1 z2 k
    by_cases c11 : sA E (4 * N) 0 &&& 31 = 11
    · obtain ⟨r, S1, S2, z1, z2, z3⟩ := z_queue h1 (sA E (4 * N) 1) (sA E (4 * N) 2) (sA E (4 * N) 3)
      obtain ⟨S', k⟩ := go S2 z3
      refine ⟨S', law_head h0 hL ?_⟩
      refine j_tabIn (pc := 32) (tgt := 425) (off := 393) dL_law_32 (by rw [c11]; decide) (by rw [c11]; decide) (by rw [c11]; rfl) (by decide) ?_
      exact lc_425 hC hM h0 hL z1 z2 k
    by_cases c12 : sA E (4 * N) 0 &&& 31 = 12
    · obtain ⟨r, S1, S2, z1, z2, z3⟩ := z_link h1 (sA E (4 * N) 1) (sA E (4 * N) 2)
      obtain ⟨S', k⟩ := go S2 z3
      refine ⟨S', law_head h0 hL ?_⟩
      refine j_tabIn (pc := 32) (tgt := 468) (off := 436) dL_law_32 (by rw [c12]; decide) (by rw [c12]; decide) (by rw [c12]; rfl) (by decide) ?_
      exact lc_468 hC hM h0 hL z1 z2 k
    by_cases c13 : sA E (4 * N) 0 &&& 31 = 13
    · obtain ⟨r, S1, S2, z1, z2, z3⟩ := z_drop h1 (sA E (4 * N) 1) (sA E (4 * N) 2)
      obtain ⟨S', k⟩ := go S2 z3
      refine ⟨S', law_head h0 hL ?_⟩
      refine j_tabIn (pc := 32) (tgt := 501) (off := 469) dL_law_32 (by rw [c13]; decide) (by rw [c13]; decide) (by rw [c13]; rfl) (by decide) ?_
      exact lc_501 hC hM h0 hL z1 z2 k
    by_cases c14 : sA E (4 * N) 0 &&& 31 = 14
    · obtain ⟨r, S1, S2, z1, z2, z3⟩ := z_goes h1 (sA E (4 * N) 1)
      obtain ⟨S', k⟩ := go S2 z3
      refine ⟨S', law_head h0 hL ?_⟩
      refine j_tabIn (pc := 32) (tgt := 534) (off := 502) dL_law_32 (by rw [c14]; decide) (by rw [c14]; decide) (by rw [c14]; rfl) (by decide) ?_
      exact lc_534 hC hM h0 hL z1 z2 k
    by_cases c15 : sA E (4 * N) 0 &&& 31 = 15
    · obtain ⟨r, S1, S2, z1, z2, z3⟩ := z_goal h1 (sA E (4 * N) 1) (sA E (4 * N) 2)
      obtain ⟨S', k⟩ := go S2 z3
      refine ⟨S', law_head h0 hL ?_⟩
      refine j_tabIn (pc := 32) (tgt := 557) (off := 525) dL_law_32 (by rw [c15]; decide) (by rw [c15]; decide) (by rw [c15]; rfl) (by decide) ?_
      exact lc_557 hC hM h0 hL z1 z2 k
    by_cases c16 : sA E (4 * N) 0 &&& 31 = 16
    · obtain ⟨r, S1, S2, z1, z2, z3⟩ := z_ahead h1 (by omega) (sA E (4 * N) 1) (sA E (4 * N) 2)
      obtain ⟨S', k⟩ := go S2 z3
      refine ⟨S', law_head h0 hL ?_⟩
      refine j_tabIn (pc := 32) (tgt := 590) (off := 558) dL_law_32 (by rw [c16]; decide) (by rw [c16]; decide) (by rw [c16]; rfl) (by decide) ?_
      exact lc_590 hC hM h0 hL z1 z2 k
    by_cases c17 : sA E (4 * N) 0 &&& 31 = 17
    · obtain ⟨r, S1, S2, z1, z2, z3⟩ := z_without h1 (by omega) (sA E (4 * N) 1)
      obtain ⟨S', k⟩ := go S2 z3
      refine ⟨S', law_head h0 hL ?_⟩
      refine j_tabIn (pc := 32) (tgt := 623) (off := 591) dL_law_32 (by rw [c17]; decide) (by rw [c17]; decide) (by rw [c17]; rfl) (by decide) ?_
      exact lc_623 hC hM h0 hL z1 z2 k
    by_cases c18 : sA E (4 * N) 0 &&& 31 = 18
    · obtain ⟨r, S1, S2, z1, z2, z3⟩ := z_worst h1 (sA E (4 * N) 1)
      obtain ⟨S', k⟩ := go S2 z3
      refine ⟨S', law_head h0 hL ?_⟩
      refine j_tabIn (pc := 32) (tgt := 646) (off := 614) dL_law_32 (by rw [c18]; decide) (by rw [c18]; decide) (by rw [c18]; rfl) (by decide) ?_
      exact lc_646 hC hM h0 hL z1 z2 k
    by_cases c19 : sA E (4 * N) 0 &&& 31 = 19
    · obtain ⟨r, S1, S2, z1, z2, z3⟩ := z_drawn h1 (by omega) (sA E (4 * N) 1) (sA E (4 * N) 2) (sA E (4 * N) 3)
      obtain ⟨S', k⟩ := go S2 z3
      refine ⟨S', law_head h0 hL ?_⟩
      refine j_tabIn (pc := 32) (tgt := 669) (off := 637) dL_law_32 (by rw [c19]; decide) (by rw [c19]; decide) (by rw [c19]; rfl) (by decide) ?_
      exact lc_669 hC hM h0 hL z1 z2 k
    by_cases c20 : sA E (4 * N) 0 &&& 31 = 20
    · obtain ⟨r, S1, S2, z1, z2, z3⟩ := z_count h1 (sA E (4 * N) 1)
      obtain ⟨S', k⟩ := go S2 z3
      refine ⟨S', law_head h0 hL ?_⟩
      refine j_tabIn (pc := 32) (tgt := 712) (off := 680) dL_law_32 (by rw [c20]; decide) (by rw [c20]; decide) (by rw [c20]; rfl) (by decide) ?_
      exact lc_712 hC hM h0 hL z1 z2 k
    have h9 : SM (N + 1) S := by
      obtain ⟨kept, W, A, n, T, C, M, V⟩ := h1
      exact ⟨kept, W, A, n, T, C, M, V.mono (by omega)⟩
    obtain ⟨S', k⟩ := go S h9
    refine ⟨S', law_head h0 hL ?_⟩
    refine j_tabD (pc := 32) (tgt := 735) dL_law_32 (by decide) (fun i hi => match i, hi with | 0, _ => Or.inr (jti c0 rfl) | 1, _ => Or.inr (jti c1 rfl) | 2, _ => Or.inr (jti c2 rfl) | 3, _ => Or.inr (jti c3 rfl) | 4, _ => Or.inr (jti c4 rfl) | 5, _ => Or.inr (jti c5 rfl) | 6, _ => Or.inr (jti c6 rfl) | 7, _ => Or.inr (jti c7 rfl) | 8, _ => Or.inr (jti c8 rfl) | 9, _ => Or.inr (jti c9 rfl) | 10, _ => Or.inr (jti c10 rfl) | 11, _ => Or.inr (jti c11 rfl) | 12, _ => Or.inr (jti c12 rfl) | 13, _ => Or.inr (jti c13 rfl) | 14, _ => Or.inr (jti c14 rfl) | 15, _ => Or.inr (jti c15 rfl) | 16, _ => Or.inr (jti c16 rfl) | 17, _ => Or.inr (jti c17 rfl) | 18, _ => Or.inr (jti c18 rfl) | 19, _ => Or.inr (jti c19 rfl) | 20, _ => Or.inr (jti c20 rfl) | n + 21, h9 => absurd h9 (by simp)) (by decide) ?_
    exact k
