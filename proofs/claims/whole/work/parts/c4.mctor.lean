def fsM : List (Nat × Nat × Nat) := q_frz.filter (fun x => decide (x.1 = 159)) ++ fsW
set_option maxRecDepth 20000 in
theorem M_init_w {G : q_G} {d : Nat} {σ : q_S} {Q : Option Value → q_S → Prop} (hB0 : Bn 160 fsW [] σ) (k : ∀ σ', Bn 182 fsM q_w37 σ' → q_At G X_M_init (d + 1) 0 0 418 [some (.ref 159)] [.int 0, .ref 159] σ' Q) : q_At G X_M_init (d + 1) 22 16823 0 [some (.ref 159)] [] σ Q := by
  refine q_aload_n o_M_init_0 rfl ?_
  refine q_obj o_M_init_1 (by decide +kernel) (Nat.le_of_ble_eq_true rfl) ?_
  refine q_aload_n o_M_init_4 rfl ?_
  refine q_sipush (v := 1000) o_M_init_5 (by decide) ?_
  refine n_newI (b := 21) (sb := 15823) (N := 1000) (n := 160) hB0 o_M_init_8 rfl rfl (by decide) (Or.inr rfl) (fun σ1 hB1 => ?_)
  refine n_putR (n := 161) hB1 o_M_init_10 fp_M_14 (fun h => by first | rfl | cases h) rfl (by decide) (fun _ => rfl) (fun _ => rfl) (by decide +kernel) (fun σ2 hB2 => ?_)
  refine q_aload_n o_M_init_13 rfl ?_
  refine q_sipush (v := 1002) o_M_init_14 (by decide) ?_
  refine n_newI (b := 20) (sb := 14821) (N := 1002) (n := 161) hB2 o_M_init_17 rfl rfl (by decide) (Or.inr rfl) (fun σ3 hB3 => ?_)
  refine n_putR (n := 162) hB3 o_M_init_19 fp_M_24 (fun h => by first | rfl | cases h) rfl (by decide) (fun _ => rfl) (fun _ => rfl) (by decide +kernel) (fun σ4 hB4 => ?_)
  refine q_aload_n o_M_init_22 rfl ?_
  refine q_sipush (v := 1002) o_M_init_23 (by decide) ?_
  refine n_newI (b := 19) (sb := 13819) (N := 1002) (n := 162) hB4 o_M_init_26 rfl rfl (by decide) (Or.inr rfl) (fun σ5 hB5 => ?_)
  refine n_putR (n := 163) hB5 o_M_init_28 fp_M_27 (fun h => by first | rfl | cases h) rfl (by decide) (fun _ => rfl) (fun _ => rfl) (by decide +kernel) (fun σ6 hB6 => ?_)
  refine q_aload_n o_M_init_31 rfl ?_
  refine q_sipush (v := 1002) o_M_init_32 (by decide) ?_
  refine n_newL (b := 18) (sb := 12817) (N := 1002) (n := 163) hB6 o_M_init_35 rfl rfl (by decide) (Or.inr rfl) (fun σ7 hB7 => ?_)
  refine n_putR (n := 164) hB7 o_M_init_37 fp_M_30 (fun h => by first | rfl | cases h) rfl (by decide) (fun _ => rfl) (fun _ => rfl) (by decide +kernel) (fun σ8 hB8 => ?_)
  refine q_aload_n o_M_init_40 rfl ?_
  refine q_bipush (v := 33) o_M_init_41 (by decide) ?_
  refine n_newL (b := 17) (sb := 12784) (N := 33) (n := 164) hB8 o_M_init_43 rfl rfl (by decide) (Or.inr rfl) (fun σ9 hB9 => ?_)
  refine q_dup o_M_init_45 rfl ?_
  refine q_iconst (v := 0) o_M_init_46 (by decide) ?_
  refine q_ldc2 (v := 15782540) o_M_init_47 (by decide +kernel) ?_
  refine n_last (n := 165) (i := 0) hB9 o_M_init_50 (by decide) rfl rfl (by decide) (fun σ10 hB10 => ?_)
  refine q_dup o_M_init_51 rfl ?_
  refine q_iconst (v := 1) o_M_init_52 (by decide) ?_
  refine q_ldc2 (v := 1166844) o_M_init_53 (by decide +kernel) ?_
  refine n_last (n := 165) (i := 1) hB10 o_M_init_56 (by decide) rfl rfl (by decide) (fun σ11 hB11 => ?_)
  refine q_dup o_M_init_57 rfl ?_
  refine q_iconst (v := 2) o_M_init_58 (by decide) ?_
  refine q_ldc2 (v := 418609182) o_M_init_59 (by decide +kernel) ?_
  refine n_last (n := 165) (i := 2) hB11 o_M_init_62 (by decide) rfl rfl (by decide) (fun σ12 hB12 => ?_)
  refine q_dup o_M_init_63 rfl ?_
  refine q_iconst (v := 3) o_M_init_64 (by decide) ?_
  refine q_ldc2 (v := 629152) o_M_init_65 (by decide +kernel) ?_
  refine n_last (n := 165) (i := 3) hB12 o_M_init_68 (by decide) rfl rfl (by decide) (fun σ13 hB13 => ?_)
  refine q_dup o_M_init_69 rfl ?_
  refine q_iconst (v := 4) o_M_init_70 (by decide) ?_
  refine q_ldc2 (v := 255319) o_M_init_71 (by decide +kernel) ?_
  refine n_last (n := 165) (i := 4) hB13 o_M_init_74 (by decide) rfl rfl (by decide) (fun σ14 hB14 => ?_)
  refine q_dup o_M_init_75 rfl ?_
  refine q_iconst (v := 5) o_M_init_76 (by decide) ?_
  refine q_ldc2 (v := 6395136) o_M_init_77 (by decide +kernel) ?_
  refine n_last (n := 165) (i := 5) hB14 o_M_init_80 (by decide) rfl rfl (by decide) (fun σ15 hB15 => ?_)
  refine q_dup o_M_init_81 rfl ?_
  refine q_bipush (v := 6) o_M_init_82 (by decide) ?_
  refine q_ldc2 (v := 620569) o_M_init_84 (by decide +kernel) ?_
  refine n_last (n := 165) (i := 6) hB15 o_M_init_87 (by decide) rfl rfl (by decide) (fun σ16 hB16 => ?_)
  refine q_dup o_M_init_88 rfl ?_
  refine q_bipush (v := 7) o_M_init_89 (by decide) ?_
  refine q_ldc2 (v := 407338) o_M_init_91 (by decide +kernel) ?_
  refine n_last (n := 165) (i := 7) hB16 o_M_init_94 (by decide) rfl rfl (by decide) (fun σ17 hB17 => ?_)
  refine q_dup o_M_init_95 rfl ?_
  refine q_bipush (v := 8) o_M_init_96 (by decide) ?_
  refine q_ldc2 (v := 791486) o_M_init_98 (by decide +kernel) ?_
  refine n_last (n := 165) (i := 8) hB17 o_M_init_101 (by decide) rfl rfl (by decide) (fun σ18 hB18 => ?_)
  refine q_dup o_M_init_102 rfl ?_
  refine q_bipush (v := 9) o_M_init_103 (by decide) ?_
  refine q_ldc2 (v := 2686664) o_M_init_105 (by decide +kernel) ?_
  refine n_last (n := 165) (i := 9) hB18 o_M_init_108 (by decide) rfl rfl (by decide) (fun σ19 hB19 => ?_)
  refine q_dup o_M_init_109 rfl ?_
  refine q_bipush (v := 10) o_M_init_110 (by decide) ?_
  refine q_ldc2 (v := 149033600) o_M_init_112 (by decide +kernel) ?_
  refine n_last (n := 165) (i := 10) hB19 o_M_init_115 (by decide) rfl rfl (by decide) (fun σ20 hB20 => ?_)
  refine q_dup o_M_init_116 rfl ?_
  refine q_bipush (v := 11) o_M_init_117 (by decide) ?_
  refine q_ldc2 (v := 27011078) o_M_init_119 (by decide +kernel) ?_
  refine n_last (n := 165) (i := 11) hB20 o_M_init_122 (by decide) rfl rfl (by decide) (fun σ21 hB21 => ?_)
  refine q_dup o_M_init_123 rfl ?_
  refine q_bipush (v := 12) o_M_init_124 (by decide) ?_
  refine q_ldc2 (v := 14270) o_M_init_126 (by decide +kernel) ?_
  refine n_last (n := 165) (i := 12) hB21 o_M_init_129 (by decide) rfl rfl (by decide) (fun σ22 hB22 => ?_)
  refine q_dup o_M_init_130 rfl ?_
  refine q_bipush (v := 13) o_M_init_131 (by decide) ?_
  refine q_ldc2 (v := 15252293) o_M_init_133 (by decide +kernel) ?_
  refine n_last (n := 165) (i := 13) hB22 o_M_init_136 (by decide) rfl rfl (by decide) (fun σ23 hB23 => ?_)
  refine q_dup o_M_init_137 rfl ?_
  refine q_bipush (v := 14) o_M_init_138 (by decide) ?_
  refine q_ldc2 (v := 227314) o_M_init_140 (by decide +kernel) ?_
  refine n_last (n := 165) (i := 14) hB23 o_M_init_143 (by decide) rfl rfl (by decide) (fun σ24 hB24 => ?_)
  refine q_dup o_M_init_144 rfl ?_
  refine q_bipush (v := 15) o_M_init_145 (by decide) ?_
  refine q_ldc2 (v := 993947) o_M_init_147 (by decide +kernel) ?_
  refine n_last (n := 165) (i := 15) hB24 o_M_init_150 (by decide) rfl rfl (by decide) (fun σ25 hB25 => ?_)
  refine q_dup o_M_init_151 rfl ?_
  refine q_bipush (v := 16) o_M_init_152 (by decide) ?_
  refine q_ldc2 (v := 615203) o_M_init_154 (by decide +kernel) ?_
  refine n_last (n := 165) (i := 16) hB25 o_M_init_157 (by decide) rfl rfl (by decide) (fun σ26 hB26 => ?_)
  refine q_dup o_M_init_158 rfl ?_
  refine q_bipush (v := 17) o_M_init_159 (by decide) ?_
  refine q_ldc2 (v := 21966) o_M_init_161 (by decide +kernel) ?_
  refine n_last (n := 165) (i := 17) hB26 o_M_init_164 (by decide) rfl rfl (by decide) (fun σ27 hB27 => ?_)
  refine q_dup o_M_init_165 rfl ?_
  refine q_bipush (v := 18) o_M_init_166 (by decide) ?_
  refine q_ldc2 (v := 30596128) o_M_init_168 (by decide +kernel) ?_
  refine n_last (n := 165) (i := 18) hB27 o_M_init_171 (by decide) rfl rfl (by decide) (fun σ28 hB28 => ?_)
  refine q_dup o_M_init_172 rfl ?_
  refine q_bipush (v := 19) o_M_init_173 (by decide) ?_
  refine q_ldc2 (v := 16026169954) o_M_init_175 (by decide +kernel) ?_
  refine n_last (n := 165) (i := 19) hB28 o_M_init_178 (by decide) rfl rfl (by decide) (fun σ29 hB29 => ?_)
  refine q_dup o_M_init_179 rfl ?_
  refine q_bipush (v := 20) o_M_init_180 (by decide) ?_
  refine q_ldc2 (v := 49590575432) o_M_init_182 (by decide +kernel) ?_
  refine n_last (n := 165) (i := 20) hB29 o_M_init_185 (by decide) rfl rfl (by decide) (fun σ30 hB30 => ?_)
  refine q_dup o_M_init_186 rfl ?_
  refine q_bipush (v := 21) o_M_init_187 (by decide) ?_
  refine q_ldc2 (v := 835201092) o_M_init_189 (by decide +kernel) ?_
  refine n_last (n := 165) (i := 21) hB30 o_M_init_192 (by decide) rfl rfl (by decide) (fun σ31 hB31 => ?_)
  refine q_dup o_M_init_193 rfl ?_
  refine q_bipush (v := 22) o_M_init_194 (by decide) ?_
  refine q_ldc2 (v := 19741) o_M_init_196 (by decide +kernel) ?_
  refine n_last (n := 165) (i := 22) hB31 o_M_init_199 (by decide) rfl rfl (by decide) (fun σ32 hB32 => ?_)
  refine q_dup o_M_init_200 rfl ?_
  refine q_bipush (v := 23) o_M_init_201 (by decide) ?_
  refine q_ldc2 (v := 1891) o_M_init_203 (by decide +kernel) ?_
  refine n_last (n := 165) (i := 23) hB32 o_M_init_206 (by decide) rfl rfl (by decide) (fun σ33 hB33 => ?_)
  refine q_dup o_M_init_207 rfl ?_
  refine q_bipush (v := 24) o_M_init_208 (by decide) ?_
  refine q_ldc2 (v := 573) o_M_init_210 (by decide +kernel) ?_
  refine n_last (n := 165) (i := 24) hB33 o_M_init_213 (by decide) rfl rfl (by decide) (fun σ34 hB34 => ?_)
  refine q_dup o_M_init_214 rfl ?_
  refine q_bipush (v := 25) o_M_init_215 (by decide) ?_
  refine q_ldc2 (v := 1179132858181) o_M_init_217 (by decide +kernel) ?_
  refine n_last (n := 165) (i := 25) hB34 o_M_init_220 (by decide) rfl rfl (by decide) (fun σ35 hB35 => ?_)
  refine q_dup o_M_init_221 rfl ?_
  refine q_bipush (v := 26) o_M_init_222 (by decide) ?_
  refine q_ldc2 (v := 20875329818) o_M_init_224 (by decide +kernel) ?_
  refine n_last (n := 165) (i := 26) hB35 o_M_init_227 (by decide) rfl rfl (by decide) (fun σ36 hB36 => ?_)
  refine q_dup o_M_init_228 rfl ?_
  refine q_bipush (v := 27) o_M_init_229 (by decide) ?_
  refine q_ldc2 (v := 4672519) o_M_init_231 (by decide +kernel) ?_
  refine n_last (n := 165) (i := 27) hB36 o_M_init_234 (by decide) rfl rfl (by decide) (fun σ37 hB37 => ?_)
  refine q_dup o_M_init_235 rfl ?_
  refine q_bipush (v := 28) o_M_init_236 (by decide) ?_
  refine q_ldc2 (v := 324975) o_M_init_238 (by decide +kernel) ?_
  refine n_last (n := 165) (i := 28) hB37 o_M_init_241 (by decide) rfl rfl (by decide) (fun σ38 hB38 => ?_)
  refine q_dup o_M_init_242 rfl ?_
  refine q_bipush (v := 29) o_M_init_243 (by decide) ?_
  refine q_ldc2 (v := 311227) o_M_init_245 (by decide +kernel) ?_
  refine n_last (n := 165) (i := 29) hB38 o_M_init_248 (by decide) rfl rfl (by decide) (fun σ39 hB39 => ?_)
  refine q_dup o_M_init_249 rfl ?_
  refine q_bipush (v := 30) o_M_init_250 (by decide) ?_
  refine q_ldc2 (v := 716042) o_M_init_252 (by decide +kernel) ?_
  refine n_last (n := 165) (i := 30) hB39 o_M_init_255 (by decide) rfl rfl (by decide) (fun σ40 hB40 => ?_)
  refine q_dup o_M_init_256 rfl ?_
  refine q_bipush (v := 31) o_M_init_257 (by decide) ?_
  refine q_ldc2 (v := 671333) o_M_init_259 (by decide +kernel) ?_
  refine n_last (n := 165) (i := 31) hB40 o_M_init_262 (by decide) rfl rfl (by decide) (fun σ41 hB41 => ?_)
  refine q_dup o_M_init_263 rfl ?_
  refine q_bipush (v := 32) o_M_init_264 (by decide) ?_
  refine q_ldc2 (v := 11304) o_M_init_266 (by decide +kernel) ?_
  refine n_last (n := 165) (i := 32) hB41 o_M_init_269 (by decide) rfl rfl (by decide) (fun σ42 hB42 => ?_)
  refine n_putR (n := 165) hB42 o_M_init_270 fp_M_100 (fun h => by first | rfl | cases h) rfl (by decide) (fun _ => rfl) (fun _ => rfl) (by decide +kernel) (fun σ43 hB43 => ?_)
  refine q_aload_n o_M_init_273 rfl ?_
  refine q_sipush (v := 400) o_M_init_274 (by decide) ?_
  refine n_newI (b := 16) (sb := 12384) (N := 400) (n := 165) hB43 o_M_init_277 rfl rfl (by decide) (Or.inl (by decide)) (fun σ44 hB44 => ?_)
  refine n_putR (n := 166) hB44 o_M_init_279 fp_M_103 (fun h => by first | rfl | cases h) rfl (by decide) (fun _ => rfl) (fun _ => rfl) (by decide +kernel) (fun σ45 hB45 => ?_)
  refine q_aload_n o_M_init_282 rfl ?_
  refine q_sipush (v := 2200) o_M_init_283 (by decide) ?_
  refine n_newI (b := 15) (sb := 10184) (N := 2200) (n := 166) hB45 o_M_init_286 rfl rfl (by decide) (Or.inl (by decide)) (fun σ46 hB46 => ?_)
  refine n_putR (n := 167) hB46 o_M_init_288 fp_M_106 (fun h => by first | rfl | cases h) rfl (by decide) (fun _ => rfl) (fun _ => rfl) (by decide +kernel) (fun σ47 hB47 => ?_)
  refine q_aload_n o_M_init_291 rfl ?_
  refine q_sipush (v := 2200) o_M_init_292 (by decide) ?_
  refine n_newI (b := 14) (sb := 7984) (N := 2200) (n := 167) hB47 o_M_init_295 rfl rfl (by decide) (Or.inl (by decide)) (fun σ48 hB48 => ?_)
  refine n_putR (n := 168) hB48 o_M_init_297 fp_M_109 (fun h => by first | rfl | cases h) rfl (by decide) (fun _ => rfl) (fun _ => rfl) (by decide +kernel) (fun σ49 hB49 => ?_)
  refine q_aload_n o_M_init_300 rfl ?_
  refine q_bipush (v := 12) o_M_init_301 (by decide) ?_
  refine n_newL (b := 13) (sb := 7972) (N := 12) (n := 168) hB49 o_M_init_303 rfl rfl (by decide) (Or.inl (by decide)) (fun σ50 hB50 => ?_)
  refine n_putR (n := 169) hB50 o_M_init_305 fp_M_112 (fun h => by first | rfl | cases h) rfl (by decide) (fun _ => rfl) (fun _ => rfl) (by decide +kernel) (fun σ51 hB51 => ?_)
  refine q_aload_n o_M_init_308 rfl ?_
  refine q_bipush (v := 12) o_M_init_309 (by decide) ?_
  refine n_newL (b := 12) (sb := 7960) (N := 12) (n := 169) hB51 o_M_init_311 rfl rfl (by decide) (Or.inl (by decide)) (fun σ52 hB52 => ?_)
  refine n_putR (n := 170) hB52 o_M_init_313 fp_M_115 (fun h => by first | rfl | cases h) rfl (by decide) (fun _ => rfl) (fun _ => rfl) (by decide +kernel) (fun σ53 hB53 => ?_)
  refine q_aload_n o_M_init_316 rfl ?_
  refine q_bipush (v := 12) o_M_init_317 (by decide) ?_
  refine n_newI (b := 11) (sb := 7948) (N := 12) (n := 170) hB53 o_M_init_319 rfl rfl (by decide) (Or.inl (by decide)) (fun σ54 hB54 => ?_)
  refine n_putR (n := 171) hB54 o_M_init_321 fp_M_118 (fun h => by first | rfl | cases h) rfl (by decide) (fun _ => rfl) (fun _ => rfl) (by decide +kernel) (fun σ55 hB55 => ?_)
  refine q_aload_n o_M_init_324 rfl ?_
  refine q_bipush (v := 12) o_M_init_325 (by decide) ?_
  refine n_newI (b := 10) (sb := 7936) (N := 12) (n := 171) hB55 o_M_init_327 rfl rfl (by decide) (Or.inl (by decide)) (fun σ56 hB56 => ?_)
  refine n_putR (n := 172) hB56 o_M_init_329 fp_M_121 (fun h => by first | rfl | cases h) rfl (by decide) (fun _ => rfl) (fun _ => rfl) (by decide +kernel) (fun σ57 hB57 => ?_)
  refine q_aload_n o_M_init_332 rfl ?_
  refine q_sipush (v := 210) o_M_init_333 (by decide) ?_
  refine n_newI (b := 9) (sb := 7726) (N := 210) (n := 172) hB57 o_M_init_336 rfl rfl (by decide) (Or.inl (by decide)) (fun σ58 hB58 => ?_)
  refine n_putR (n := 173) hB58 o_M_init_338 fp_M_124 (fun h => by first | rfl | cases h) rfl (by decide) (fun _ => rfl) (fun _ => rfl) (by decide +kernel) (fun σ59 hB59 => ?_)
  refine q_aload_n o_M_init_341 rfl ?_
  refine q_bipush (v := 8) o_M_init_342 (by decide) ?_
  refine n_newI (b := 8) (sb := 7718) (N := 8) (n := 173) hB59 o_M_init_344 rfl rfl (by decide) (Or.inl (by decide)) (fun σ60 hB60 => ?_)
  refine n_putR (n := 174) hB60 o_M_init_346 fp_M_127 (fun h => by first | rfl | cases h) rfl (by decide) (fun _ => rfl) (fun _ => rfl) (by decide +kernel) (fun σ61 hB61 => ?_)
  refine q_aload_n o_M_init_349 rfl ?_
  refine q_sipush (v := 1100) o_M_init_350 (by decide) ?_
  refine n_newI (b := 7) (sb := 6618) (N := 1100) (n := 174) hB61 o_M_init_353 rfl rfl (by decide) (Or.inl (by decide)) (fun σ62 hB62 => ?_)
  refine n_putR (n := 175) hB62 o_M_init_355 fp_M_130 (fun h => by first | rfl | cases h) rfl (by decide) (fun _ => rfl) (fun _ => rfl) (by decide +kernel) (fun σ63 hB63 => ?_)
  refine q_aload_n o_M_init_358 rfl ?_
  refine q_sipush (v := 1886) o_M_init_359 (by decide) ?_
  refine n_newI (b := 6) (sb := 4732) (N := 1886) (n := 175) hB63 o_M_init_362 rfl rfl (by decide) (Or.inl (by decide)) (fun σ64 hB64 => ?_)
  refine n_putR (n := 176) hB64 o_M_init_364 fp_M_133 (fun h => by first | rfl | cases h) rfl (by decide) (fun _ => rfl) (fun _ => rfl) (by decide +kernel) (fun σ65 hB65 => ?_)
  refine q_aload_n o_M_init_367 rfl ?_
  refine q_iconst (v := 4) o_M_init_368 (by decide) ?_
  refine n_newB (b := 5) (sb := 4728) (N := 4) (n := 176) hB65 o_M_init_369 rfl rfl (by decide) (Or.inl (by decide)) (fun σ66 hB66 => ?_)
  refine n_putR (n := 177) hB66 o_M_init_371 fp_M_136 (fun h => by first | rfl | cases h) rfl (by decide) (fun _ => rfl) (fun _ => rfl) (by decide +kernel) (fun σ67 hB67 => ?_)
  refine q_aload_n o_M_init_374 rfl ?_
  refine q_sipush (v := 360) o_M_init_375 (by decide) ?_
  refine n_newI (b := 4) (sb := 4368) (N := 360) (n := 177) hB67 o_M_init_378 rfl rfl (by decide) (Or.inl (by decide)) (fun σ68 hB68 => ?_)
  refine n_putR (n := 178) hB68 o_M_init_380 fp_M_140 (fun h => by first | rfl | cases h) rfl (by decide) (fun _ => rfl) (fun _ => rfl) (by decide +kernel) (fun σ69 hB69 => ?_)
  refine q_aload_n o_M_init_383 rfl ?_
  refine q_bipush (v := 6) o_M_init_384 (by decide) ?_
  refine n_newI (b := 3) (sb := 4362) (N := 6) (n := 178) hB69 o_M_init_386 rfl rfl (by decide) (Or.inl (by decide)) (fun σ70 hB70 => ?_)
  refine n_putR (n := 179) hB70 o_M_init_388 fp_M_143 (fun h => by first | rfl | cases h) rfl (by decide) (fun _ => rfl) (fun _ => rfl) (by decide +kernel) (fun σ71 hB71 => ?_)
  refine q_aload_n o_M_init_391 rfl ?_
  refine q_sipush (v := 4320) o_M_init_392 (by decide) ?_
  refine n_newI (b := 2) (sb := 42) (N := 4320) (n := 179) hB71 o_M_init_395 rfl rfl (by decide) (Or.inl (by decide)) (fun σ72 hB72 => ?_)
  refine n_putR (n := 180) hB72 o_M_init_397 fp_M_146 (fun h => by first | rfl | cases h) rfl (by decide) (fun _ => rfl) (fun _ => rfl) (by decide +kernel) (fun σ73 hB73 => ?_)
  refine q_aload_n o_M_init_400 rfl ?_
  refine q_bipush (v := 6) o_M_init_401 (by decide) ?_
  refine n_newI (b := 1) (sb := 36) (N := 6) (n := 180) hB73 o_M_init_403 rfl rfl (by decide) (Or.inl (by decide)) (fun σ74 hB74 => ?_)
  refine n_putR (n := 181) hB74 o_M_init_405 fp_M_149 (fun h => by first | rfl | cases h) rfl (by decide) (fun _ => rfl) (fun _ => rfl) (by decide +kernel) (fun σ75 hB75 => ?_)
  refine q_aload_n o_M_init_408 rfl ?_
  refine q_bipush (v := 36) o_M_init_409 (by decide) ?_
  refine n_newI (b := 0) (sb := 0) (N := 36) (n := 181) hB75 o_M_init_411 rfl rfl (by decide) (Or.inl (by decide)) (fun σ76 hB76 => ?_)
  refine n_putR (n := 182) hB76 o_M_init_413 fp_M_152 (fun h => by first | rfl | cases h) rfl (by decide) (fun _ => rfl) (fun _ => rfl) (by decide +kernel) (fun σ77 hB77 => ?_)
  refine q_aload_n o_M_init_416 rfl ?_
  refine q_iconst (v := 0) o_M_init_417 (by decide) ?_
  exact k _ (hB77.sub (by decide +kernel))
