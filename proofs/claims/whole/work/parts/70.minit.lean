/-! ===== the reference: its constructor, behind the making ===== -/
def fX8_init_130 (S : jS) : Option jS :=
  (fX8_begins S).bind fun y1 => if jIn (0 : Int32) 815 then jlet (jput y1 (54, 0) (upd (y1.2 (54, 0)) (0 : Int32).toNatClampNeg (5 : Int32))) fun S3 => if jIn (1 : Int32) 815 then jlet (jput S3 (54, 0) (upd (S3.2 (54, 0)) (1 : Int32).toNatClampNeg (2 : Int32))) fun S5 => if jIn (2 : Int32) 815 then jlet (jput S5 (54, 0) (upd (S5.2 (54, 0)) (2 : Int32).toNatClampNeg (4 : Int32))) fun S7 => if jIn (3 : Int32) 815 then jlet (jput S7 (54, 0) (upd (S7.2 (54, 0)) (3 : Int32).toNatClampNeg (2 : Int32))) fun S9 => (fX8_links S9 (0 : Int32) (1 : Int32) (3 : Int32)).bind fun y10 => (fX8_links y10 (1 : Int32) (4 : Int32) (2 : Int32)).bind fun y11 => (fX8_links y11 (0 : Int32) (3 : Int32) (2 : Int32)).bind fun y12 => (fX8_links y12 (3 : Int32) (4 : Int32) (2 : Int32)).bind fun y13 => (fX8_links y13 (1 : Int32) (2 : Int32) (1 : Int32)).bind fun y14 => (fX8_links y14 (3 : Int32) (2 : Int32) (2 : Int32)).bind fun y15 => (fX8_links y15 (2 : Int32) (4 : Int32) (1 : Int32)).bind fun y16 => (fX8_clashes (54, 0) y16 (0 : Int32) (2 : Int32) (1 : Int32)).bind fun y17 => (fX8_clashes (54, 0) y17 (1 : Int32) (3 : Int32) (1 : Int32)).bind fun y18 => (fX8_clashes (54, 0) y18 (4 : Int32) (5 : Int32) (1 : Int32)).bind fun y19 => if jIn (46 : Int32) 815 then jlet (jput y19 (54, 0) (upd (y19.2 (54, 0)) (46 : Int32).toNatClampNeg (2 : Int32))) fun S21 => if jIn (47 : Int32) 815 then jlet (jput S21 (54, 0) (upd (S21.2 (54, 0)) (47 : Int32).toNatClampNeg (1 : Int32))) fun S23 => if jIn (56 : Int32) 815 then jlet (jput S23 (54, 0) (upd (S23.2 (54, 0)) (56 : Int32).toNatClampNeg (1 : Int32))) fun S25 => if jIn (64 : Int32) 815 then jlet (jput S25 (54, 0) (upd (S25.2 (54, 0)) (64 : Int32).toNatClampNeg (1 : Int32))) fun S27 => (fX8_takes S27).bind fun y28 => some y28 else none else none else none else none else none else none else none else none
set_option maxRecDepth 10000 in
set_option maxHeartbeats 4000000 in
theorem kX8_init_130 {E : jE} (hM : jHM E) {S : jS} {r : jS} (h : fX8_init_130 S = some r) : JR E 9 mX8_init 130 [(0, .ref (E.1 (9, 0)))] [] S [] r := by
  unfold fX8_init_130 at h
  refine j_aload_n (pc := 130) 0 dX8_init_130 rfl rfl ?_
  obtain ⟨y1, hy1, h⟩ := jbnd h
  refine j_callV (pc := 131) (N := mX8_begins) (rr := (9, 0)) (As := []) (rest := []) (v := []) (S1 := y1) dX8_init_131 (kX8_begins hM hy1) (by simp) (by decide) okX8_begins tw_764 tw_22 tw_762 (hM (9, 0) rfl) rfl rfl rfl rfl (by simp [Value.category]) ?_
  refine j_aload_n (pc := 134) 0 dX8_init_134 rfl rfl ?_
  refine jg_9_6 (pc := 135) dX8_init_135 (hM (9, 0) rfl) tw_783 ?_
  refine j_iconst (pc := 138) dX8_init_138 jci_0 ?_
  refine j_iconst (pc := 139) dX8_init_139 jci_5 ?_
  obtain ⟨c2, h⟩ := jchk h
  obtain ⟨S3, eS3, h⟩ := jlk h
  refine j_is (pc := 140) dX8_init_140 rfl (hM (54, 0) rfl) c2 eS3 ?_
  refine j_aload_n (pc := 141) 0 dX8_init_141 rfl rfl ?_
  refine jg_9_6 (pc := 142) dX8_init_142 (hM (9, 0) rfl) tw_783 ?_
  refine j_iconst (pc := 145) dX8_init_145 jci_1 ?_
  refine j_iconst (pc := 146) dX8_init_146 jci_2 ?_
  obtain ⟨c4, h⟩ := jchk h
  obtain ⟨S5, eS5, h⟩ := jlk h
  refine j_is (pc := 147) dX8_init_147 rfl (hM (54, 0) rfl) c4 eS5 ?_
  refine j_aload_n (pc := 148) 0 dX8_init_148 rfl rfl ?_
  refine jg_9_6 (pc := 149) dX8_init_149 (hM (9, 0) rfl) tw_783 ?_
  refine j_iconst (pc := 152) dX8_init_152 jci_2 ?_
  refine j_iconst (pc := 153) dX8_init_153 jci_4 ?_
  obtain ⟨c6, h⟩ := jchk h
  obtain ⟨S7, eS7, h⟩ := jlk h
  refine j_is (pc := 154) dX8_init_154 rfl (hM (54, 0) rfl) c6 eS7 ?_
  refine j_aload_n (pc := 155) 0 dX8_init_155 rfl rfl ?_
  refine jg_9_6 (pc := 156) dX8_init_156 (hM (9, 0) rfl) tw_783 ?_
  refine j_iconst (pc := 159) dX8_init_159 jci_3 ?_
  refine j_iconst (pc := 160) dX8_init_160 jci_2 ?_
  obtain ⟨c8, h⟩ := jchk h
  obtain ⟨S9, eS9, h⟩ := jlk h
  refine j_is (pc := 161) dX8_init_161 rfl (hM (54, 0) rfl) c8 eS9 ?_
  refine j_aload_n (pc := 162) 0 dX8_init_162 rfl rfl ?_
  refine j_iconst (pc := 163) dX8_init_163 jci_0 ?_
  refine j_iconst (pc := 164) dX8_init_164 jci_1 ?_
  refine j_iconst (pc := 165) dX8_init_165 jci_3 ?_
  obtain ⟨y10, hy10, h⟩ := jbnd h
  refine j_callV (pc := 166) (N := mX8_links) (rr := (9, 0)) (As := [.int (0 : Int32), .int (1 : Int32), .int (3 : Int32)]) (rest := []) (v := []) (S1 := y10) dX8_init_166 (kX8_links hM hy10) (by simp) (by decide) okX8_links tw_768 tw_23 tw_766 (hM (9, 0) rfl) rfl rfl rfl rfl (by simp [Value.category]) ?_
  refine j_aload_n (pc := 169) 0 dX8_init_169 rfl rfl ?_
  refine j_iconst (pc := 170) dX8_init_170 jci_1 ?_
  refine j_iconst (pc := 171) dX8_init_171 jci_4 ?_
  refine j_iconst (pc := 172) dX8_init_172 jci_2 ?_
  obtain ⟨y11, hy11, h⟩ := jbnd h
  refine j_callV (pc := 173) (N := mX8_links) (rr := (9, 0)) (As := [.int (1 : Int32), .int (4 : Int32), .int (2 : Int32)]) (rest := []) (v := []) (S1 := y11) dX8_init_173 (kX8_links hM hy11) (by simp) (by decide) okX8_links tw_768 tw_23 tw_766 (hM (9, 0) rfl) rfl rfl rfl rfl (by simp [Value.category]) ?_
  refine j_aload_n (pc := 176) 0 dX8_init_176 rfl rfl ?_
  refine j_iconst (pc := 177) dX8_init_177 jci_0 ?_
  refine j_iconst (pc := 178) dX8_init_178 jci_3 ?_
  refine j_iconst (pc := 179) dX8_init_179 jci_2 ?_
  obtain ⟨y12, hy12, h⟩ := jbnd h
  refine j_callV (pc := 180) (N := mX8_links) (rr := (9, 0)) (As := [.int (0 : Int32), .int (3 : Int32), .int (2 : Int32)]) (rest := []) (v := []) (S1 := y12) dX8_init_180 (kX8_links hM hy12) (by simp) (by decide) okX8_links tw_768 tw_23 tw_766 (hM (9, 0) rfl) rfl rfl rfl rfl (by simp [Value.category]) ?_
  refine j_aload_n (pc := 183) 0 dX8_init_183 rfl rfl ?_
  refine j_iconst (pc := 184) dX8_init_184 jci_3 ?_
  refine j_iconst (pc := 185) dX8_init_185 jci_4 ?_
  refine j_iconst (pc := 186) dX8_init_186 jci_2 ?_
  obtain ⟨y13, hy13, h⟩ := jbnd h
  refine j_callV (pc := 187) (N := mX8_links) (rr := (9, 0)) (As := [.int (3 : Int32), .int (4 : Int32), .int (2 : Int32)]) (rest := []) (v := []) (S1 := y13) dX8_init_187 (kX8_links hM hy13) (by simp) (by decide) okX8_links tw_768 tw_23 tw_766 (hM (9, 0) rfl) rfl rfl rfl rfl (by simp [Value.category]) ?_
  refine j_aload_n (pc := 190) 0 dX8_init_190 rfl rfl ?_
  refine j_iconst (pc := 191) dX8_init_191 jci_1 ?_
  refine j_iconst (pc := 192) dX8_init_192 jci_2 ?_
  refine j_iconst (pc := 193) dX8_init_193 jci_1 ?_
  obtain ⟨y14, hy14, h⟩ := jbnd h
  refine j_callV (pc := 194) (N := mX8_links) (rr := (9, 0)) (As := [.int (1 : Int32), .int (2 : Int32), .int (1 : Int32)]) (rest := []) (v := []) (S1 := y14) dX8_init_194 (kX8_links hM hy14) (by simp) (by decide) okX8_links tw_768 tw_23 tw_766 (hM (9, 0) rfl) rfl rfl rfl rfl (by simp [Value.category]) ?_
  refine j_aload_n (pc := 197) 0 dX8_init_197 rfl rfl ?_
  refine j_iconst (pc := 198) dX8_init_198 jci_3 ?_
  refine j_iconst (pc := 199) dX8_init_199 jci_2 ?_
  refine j_iconst (pc := 200) dX8_init_200 jci_2 ?_
  obtain ⟨y15, hy15, h⟩ := jbnd h
  refine j_callV (pc := 201) (N := mX8_links) (rr := (9, 0)) (As := [.int (3 : Int32), .int (2 : Int32), .int (2 : Int32)]) (rest := []) (v := []) (S1 := y15) dX8_init_201 (kX8_links hM hy15) (by simp) (by decide) okX8_links tw_768 tw_23 tw_766 (hM (9, 0) rfl) rfl rfl rfl rfl (by simp [Value.category]) ?_
  refine j_aload_n (pc := 204) 0 dX8_init_204 rfl rfl ?_
  refine j_iconst (pc := 205) dX8_init_205 jci_2 ?_
  refine j_iconst (pc := 206) dX8_init_206 jci_4 ?_
  refine j_iconst (pc := 207) dX8_init_207 jci_1 ?_
  obtain ⟨y16, hy16, h⟩ := jbnd h
  refine j_callV (pc := 208) (N := mX8_links) (rr := (9, 0)) (As := [.int (2 : Int32), .int (4 : Int32), .int (1 : Int32)]) (rest := []) (v := []) (S1 := y16) dX8_init_208 (kX8_links hM hy16) (by simp) (by decide) okX8_links tw_768 tw_23 tw_766 (hM (9, 0) rfl) rfl rfl rfl rfl (by simp [Value.category]) ?_
  refine j_aload_n (pc := 211) 0 dX8_init_211 rfl rfl ?_
  refine jg_9_6 (pc := 212) dX8_init_212 (hM (9, 0) rfl) tw_783 ?_
  refine j_iconst (pc := 215) dX8_init_215 jci_0 ?_
  refine j_iconst (pc := 216) dX8_init_216 jci_2 ?_
  refine j_iconst (pc := 217) dX8_init_217 jci_1 ?_
  obtain ⟨y17, hy17, h⟩ := jbnd h
  refine j_callS (pc := 218) (N := mX8_clashes) (As := [.ref (E.1 (54, 0)), .int (0 : Int32), .int (2 : Int32), .int (1 : Int32)]) (rest := []) (v := []) (S1 := y17) dX8_init_218 (kX8_clashes hM ⟨rfl, (hM (54, 0) rfl)⟩ hy17) (by simp) (by decide) okX8_clashes tw_771 tw_770 rfl rfl (by simp [Value.category]) ?_
  refine j_aload_n (pc := 221) 0 dX8_init_221 rfl rfl ?_
  refine jg_9_6 (pc := 222) dX8_init_222 (hM (9, 0) rfl) tw_783 ?_
  refine j_iconst (pc := 225) dX8_init_225 jci_1 ?_
  refine j_iconst (pc := 226) dX8_init_226 jci_3 ?_
  refine j_iconst (pc := 227) dX8_init_227 jci_1 ?_
  obtain ⟨y18, hy18, h⟩ := jbnd h
  refine j_callS (pc := 228) (N := mX8_clashes) (As := [.ref (E.1 (54, 0)), .int (1 : Int32), .int (3 : Int32), .int (1 : Int32)]) (rest := []) (v := []) (S1 := y18) dX8_init_228 (kX8_clashes hM ⟨rfl, (hM (54, 0) rfl)⟩ hy18) (by simp) (by decide) okX8_clashes tw_771 tw_770 rfl rfl (by simp [Value.category]) ?_
  refine j_aload_n (pc := 231) 0 dX8_init_231 rfl rfl ?_
  refine jg_9_6 (pc := 232) dX8_init_232 (hM (9, 0) rfl) tw_783 ?_
  refine j_iconst (pc := 235) dX8_init_235 jci_4 ?_
  refine j_iconst (pc := 236) dX8_init_236 jci_5 ?_
  refine j_iconst (pc := 237) dX8_init_237 jci_1 ?_
  obtain ⟨y19, hy19, h⟩ := jbnd h
  refine j_callS (pc := 238) (N := mX8_clashes) (As := [.ref (E.1 (54, 0)), .int (4 : Int32), .int (5 : Int32), .int (1 : Int32)]) (rest := []) (v := []) (S1 := y19) dX8_init_238 (kX8_clashes hM ⟨rfl, (hM (54, 0) rfl)⟩ hy19) (by simp) (by decide) okX8_clashes tw_771 tw_770 rfl rfl (by simp [Value.category]) ?_
  refine j_aload_n (pc := 241) 0 dX8_init_241 rfl rfl ?_
  refine jg_9_6 (pc := 242) dX8_init_242 (hM (9, 0) rfl) tw_783 ?_
  refine j_bipush (pc := 245) dX8_init_245 jcb_46 ?_
  refine j_iconst (pc := 247) dX8_init_247 jci_2 ?_
  obtain ⟨c20, h⟩ := jchk h
  obtain ⟨S21, eS21, h⟩ := jlk h
  refine j_is (pc := 248) dX8_init_248 rfl (hM (54, 0) rfl) c20 eS21 ?_
  refine j_aload_n (pc := 249) 0 dX8_init_249 rfl rfl ?_
  refine jg_9_6 (pc := 250) dX8_init_250 (hM (9, 0) rfl) tw_783 ?_
  refine j_bipush (pc := 253) dX8_init_253 jcb_47 ?_
  refine j_iconst (pc := 255) dX8_init_255 jci_1 ?_
  obtain ⟨c22, h⟩ := jchk h
  obtain ⟨S23, eS23, h⟩ := jlk h
  refine j_is (pc := 256) dX8_init_256 rfl (hM (54, 0) rfl) c22 eS23 ?_
  refine j_aload_n (pc := 257) 0 dX8_init_257 rfl rfl ?_
  refine jg_9_6 (pc := 258) dX8_init_258 (hM (9, 0) rfl) tw_783 ?_
  refine j_bipush (pc := 261) dX8_init_261 jcb_56 ?_
  refine j_iconst (pc := 263) dX8_init_263 jci_1 ?_
  obtain ⟨c24, h⟩ := jchk h
  obtain ⟨S25, eS25, h⟩ := jlk h
  refine j_is (pc := 264) dX8_init_264 rfl (hM (54, 0) rfl) c24 eS25 ?_
  refine j_aload_n (pc := 265) 0 dX8_init_265 rfl rfl ?_
  refine jg_9_6 (pc := 266) dX8_init_266 (hM (9, 0) rfl) tw_783 ?_
  refine j_bipush (pc := 269) dX8_init_269 jcb_64 ?_
  refine j_iconst (pc := 271) dX8_init_271 jci_1 ?_
  obtain ⟨c26, h⟩ := jchk h
  obtain ⟨S27, eS27, h⟩ := jlk h
  refine j_is (pc := 272) dX8_init_272 rfl (hM (54, 0) rfl) c26 eS27 ?_
  refine j_aload_n (pc := 273) 0 dX8_init_273 rfl rfl ?_
  obtain ⟨y28, hy28, h⟩ := jbnd h
  refine j_callV (pc := 274) (N := mX8_takes) (rr := (9, 0)) (As := []) (rest := []) (v := []) (S1 := y28) dX8_init_274 (kX8_takes hM hy28) (by simp) (by decide) okX8_takes tw_775 tw_24 tw_773 (hM (9, 0) rfl) rfl rfl rfl rfl (by simp [Value.category]) ?_
  cases h
  exact j_vret (pc := 277) dX8_init_277 rfl
