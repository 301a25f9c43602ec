section LAWR
variable {G : q_G} {X Y : q_M} {d b sb b' sb' n pc nx idx ci a i : Nat} {ls ls' : List (Option Value)} {st As : List Value} {σ : q_S} {Q : Option Value → q_S → Prop}
theorem l_callVi (P : Int32 → q_S → Prop) (hs : q_Sh σ) (hd : q_D X pc (.invokevirtual idx) 3 nx) (hC : q_CV (m_y X).cls idx Y n ci) (hk0 : q_kd a = (0, ci)) (hn : As.length = n) (hst : q_cats st ≤ 8) (h : q_Call G d 0 0 Y (.ref a :: As) σ (q_ri P)) (hq : ∀ v σ1, q_Sh σ1 → P v σ1 → q_At G X (d + 1) b sb nx ls (.int v :: st) σ1 Q) : q_At G X (d + 1) b sb pc ls (As.reverse ++ .ref a :: st) σ Q := by
  have := q_callV (b := b) (sb := sb) (b1 := 0) (sb1 := 0) (Q := Q) (ls := ls) hd hC hk0 (q_lt hs hk0 (by decide)) hn hst h (fun r σ1 hr => by obtain ⟨h1, v, rfl, h2⟩ := hr; exact ⟨q_no_i, q_nNT h1, hq v σ1 h1 h2⟩)
  rwa [Nat.zero_add, Nat.zero_add] at this
theorem l_more (hb : b ≤ b') (hsb : sb ≤ sb') (h : q_At G X d b sb pc ls st σ Q) : q_At G X d b' sb' pc ls st σ Q := by
  intro p e R s m args below meth c H locs cells slots lsr QW hB h1 h2 hz hR hS hl hk
  exact h p e R s m args below meth c H locs cells slots lsr QW hB (by omega) (by omega) hz hR hS hl hk
theorem l_bool {x : Int32} {o1 o2 : Int} {n1 n2 n3 t1 t2 : Nat} (h1 : q_J X pc (.ifCond .eq o1) n1 o1 t1) (h2 : q_D X n1 (.iconst 1) 1 n2) (h3 : q_J X n2 (.goto o2) n3 o2 t2) (h4 : q_D X t1 (.iconst 0) 1 t2) (k : q_At G X d b sb t2 ls (.int (if x = 0 then (0 : Int32) else 1) :: st) σ Q) : q_At G X d b sb pc ls (.int x :: st) σ Q := by
  refine q_if_eq h1 (fun c => ?_) (fun c => ?_)
  · rw [if_pos c] at k
    exact q_iconst (v := 0) h4 (by decide) k
  · rw [if_neg c] at k
    exact q_iconst (v := 1) h2 (by decide) (q_goto h3 k)
theorem l_ist {j : Nat} {v : Int32} (hd : q_D X pc (.istore j) 2 nx) (hn : j < m_m X) (hl : q_st1 ls j (.int v) = ls') (k : q_At G X d b sb nx ls' st σ Q) : q_At G X d b sb pc ls (.int v :: st) σ Q := q_istore hd hn (hl ▸ k)
theorem l_thrown (hs : q_Sh σ) (hd : q_D X_L_law pc (.invokevirtual 64) 3 nx) (k : q_At G X_L_law (d + 1) b sb nx ls (.int (q_I σ 159 0) :: st) σ Q) (hst : q_cats st ≤ 8 := by exact Nat.le_of_ble_eq_true rfl) : q_At G X_L_law (d + 1) b sb pc ls (.ref 159 :: st) σ Q :=
  l_callVi (fun v σ1 => v = q_I σ 159 0 ∧ σ1 = σ) (a := 159) (As := []) hs hd k_L_64 rfl rfl hst (q_ci (by decide +kernel) (Nat.le_of_ble_eq_true rfl) (fun Q hq => v_M_thrown_0 hs hq) ⟨hs, _, rfl, rfl, rfl⟩) (fun v σ1 _ h => by obtain ⟨rfl, rfl⟩ := h; exact k)
theorem l_out (hs : q_Sh σ) (hd : q_D X pc .laload 1 nx) (k : q_At G X d b sb nx ls (.long (q_L σ 182 0) :: st) σ Q) : q_At G X d b sb pc ls (.int 0 :: .ref 182 :: st) σ Q := q_lald (i := 0) hd kd_182 (q_lt hs kd_182 (by decide)) rfl (by decide) (by decide) k
theorem l_weak {pc : Nat} {A B : Option Value} (h : q_At G X d b sb pc [some (.ref 1000), some (.ref 0), some (.ref 159), some (.ref 182), some (.int (nI i)), none, none] st σ Q) : q_At G X d b sb pc [some (.ref 1000), some (.ref 0), some (.ref 159), some (.ref 182), some (.int (nI i)), A, B] st σ Q := by
  intro p e R s m args below meth c H locs cells slots lsr QW hB h1 h2 hz hR hS hl hk
  refine h p e R s m args below meth c H locs cells slots lsr QW hB h1 h2 hz hR hS ⟨hl.1, hl.2.1, fun q hq => hl.2.2 q ?_⟩ hk
  obtain ⟨j, w⟩ := q
  obtain ⟨v, hv, rfl⟩ := q_lv_mem.mp hq
  refine q_lv_mem.mpr ⟨v, ?_, rfl⟩
  match j, hv with
  | 0, hv => exact hv
  | 1, hv => exact hv
  | 2, hv => exact hv
  | 3, hv => exact hv
  | 4, hv => exact hv
  | 5, hv => cases hv
  | 6, hv => cases hv
  | j + 7, hv => cases hv
theorem l_same {o : Option Int32} {w : Int32} {u v : Int64} (c : thr o = 0) (e3 : ∀ x, o = some x → u = x.toInt64) (e4 : w = o.getD 0) (e6 : v = u) : lg_cmp v w.toInt64 = 0 := by
  cases o with
  | none => exact absurd c (by decide)
  | some x =>
    rw [e4, e6, e3 x rfl]
    show lg_cmp x.toInt64 x.toInt64 = 0
    simp [lg_cmp]
end LAWR
theorem vl_0 {G : q_G} {d b sb i : Nat} {σ : q_S} {Q : Option Value → q_S → Prop} (K : q_S → Prop) (hi : i + 7 ≤ g_L G) (hN : g_L G < 2 ^ 31) (hs : q_Sh σ) (h : q_Call G d 0 0 X_W_feed [.ref 0, .long (((g_xs G (i + 1)).toInt64 <<< ((32 : Int32).toInt64 &&& 63)) ||| ((g_xs G (i + 2)).toInt64 &&& 4294967295)), .long (((g_xs G (i + 3)).toInt64 <<< ((32 : Int32).toInt64 &&& 63)) ||| ((g_xs G (i + 4)).toInt64 &&& 4294967295)), .long (((g_xs G (i + 5)).toInt64 <<< ((32 : Int32).toInt64 &&& 63)) ||| ((g_xs G (i + 6)).toInt64 &&& 4294967295))] σ (q_ri (fun v σ1 => q_Call G d 0 0 X_M_feed [.ref 159, .long (((g_xs G (i + 1)).toInt64 <<< ((32 : Int32).toInt64 &&& 63)) ||| ((g_xs G (i + 2)).toInt64 &&& 4294967295)), .long (((g_xs G (i + 3)).toInt64 <<< ((32 : Int32).toInt64 &&& 63)) ||| ((g_xs G (i + 4)).toInt64 &&& 4294967295)), .long (((g_xs G (i + 5)).toInt64 <<< ((32 : Int32).toInt64 &&& 63)) ||| ((g_xs G (i + 6)).toInt64 &&& 4294967295))] σ1 (q_ri (fun v' σ2 => v = v' ∧ K σ2))))) (k : ∀ σ2, q_Sh σ2 → K σ2 → q_At G X_L_law (d + 1) b sb 1413 [some (.ref 1000), some (.ref 0), some (.ref 159), some (.ref 182), some (.int (nI i)), none, none] [] σ2 Q) : q_At G X_L_law (d + 1) b sb 180 [some (.ref 1000), some (.ref 0), some (.ref 159), some (.ref 182), some (.int (nI i)), none, none] [] σ Q := by
  refine q_aload_n o_L_law_180 rfl ?_
  refine q_aload_n o_L_law_181 rfl ?_
  refine q_iload o_L_law_182 rfl ?_
  refine q_iconst (v := 1) o_L_law_184 (by decide) ?_
  refine q_iadd o_L_law_185 ?_
  refine q_sld (i := i + 1) o_L_law_186 (nI_add i 1) (by omega) hN ?_
  refine q_i2l o_L_law_187 ?_
  refine q_bipush (v := 32) o_L_law_188 (by decide) ?_
  refine q_lshl o_L_law_190 ?_
  refine q_aload_n o_L_law_191 rfl ?_
  refine q_iload o_L_law_192 rfl ?_
  refine q_iconst (v := 2) o_L_law_194 (by decide) ?_
  refine q_iadd o_L_law_195 ?_
  refine q_sld (i := i + 2) o_L_law_196 (nI_add i 2) (by omega) hN ?_
  refine q_i2l o_L_law_197 ?_
  refine q_ldc2 (v := 4294967295) o_L_law_198 (by decide +kernel) ?_
  refine q_land o_L_law_201 ?_
  refine q_lor o_L_law_202 ?_
  refine q_aload_n o_L_law_203 rfl ?_
  refine q_iload o_L_law_204 rfl ?_
  refine q_iconst (v := 3) o_L_law_206 (by decide) ?_
  refine q_iadd o_L_law_207 ?_
  refine q_sld (i := i + 3) o_L_law_208 (nI_add i 3) (by omega) hN ?_
  refine q_i2l o_L_law_209 ?_
  refine q_bipush (v := 32) o_L_law_210 (by decide) ?_
  refine q_lshl o_L_law_212 ?_
  refine q_aload_n o_L_law_213 rfl ?_
  refine q_iload o_L_law_214 rfl ?_
  refine q_iconst (v := 4) o_L_law_216 (by decide) ?_
  refine q_iadd o_L_law_217 ?_
  refine q_sld (i := i + 4) o_L_law_218 (nI_add i 4) (by omega) hN ?_
  refine q_i2l o_L_law_219 ?_
  refine q_ldc2 (v := 4294967295) o_L_law_220 (by decide +kernel) ?_
  refine q_land o_L_law_223 ?_
  refine q_lor o_L_law_224 ?_
  refine q_aload_n o_L_law_225 rfl ?_
  refine q_iload o_L_law_226 rfl ?_
  refine q_iconst (v := 5) o_L_law_228 (by decide) ?_
  refine q_iadd o_L_law_229 ?_
  refine q_sld (i := i + 5) o_L_law_230 (nI_add i 5) (by omega) hN ?_
  refine q_i2l o_L_law_231 ?_
  refine q_bipush (v := 32) o_L_law_232 (by decide) ?_
  refine q_lshl o_L_law_234 ?_
  refine q_aload_n o_L_law_235 rfl ?_
  refine q_iload o_L_law_236 rfl ?_
  refine q_bipush (v := 6) o_L_law_238 (by decide) ?_
  refine q_iadd o_L_law_240 ?_
  refine q_sld (i := i + 6) o_L_law_241 (nI_add i 6) (by omega) hN ?_
  refine q_i2l o_L_law_242 ?_
  refine q_ldc2 (v := 4294967295) o_L_law_243 (by decide +kernel) ?_
  refine q_land o_L_law_246 ?_
  refine q_lor o_L_law_247 ?_
  refine l_callVi _ (a := 0) (As := [.long (((g_xs G (i + 1)).toInt64 <<< ((32 : Int32).toInt64 &&& 63)) ||| ((g_xs G (i + 2)).toInt64 &&& 4294967295)), .long (((g_xs G (i + 3)).toInt64 <<< ((32 : Int32).toInt64 &&& 63)) ||| ((g_xs G (i + 4)).toInt64 &&& 4294967295)), .long (((g_xs G (i + 5)).toInt64 <<< ((32 : Int32).toInt64 &&& 63)) ||| ((g_xs G (i + 6)).toInt64 &&& 4294967295))]) (st := []) hs o_L_law_248 k_L_31 rfl rfl (Nat.le_of_ble_eq_true rfl) h (fun v σ1 hs1 h => ?_)
  refine q_aload_n o_L_law_251 rfl ?_
  refine q_aload_n o_L_law_252 rfl ?_
  refine q_iload o_L_law_253 rfl ?_
  refine q_iconst (v := 1) o_L_law_255 (by decide) ?_
  refine q_iadd o_L_law_256 ?_
  refine q_sld (i := i + 1) o_L_law_257 (nI_add i 1) (by omega) hN ?_
  refine q_i2l o_L_law_258 ?_
  refine q_bipush (v := 32) o_L_law_259 (by decide) ?_
  refine q_lshl o_L_law_261 ?_
  refine q_aload_n o_L_law_262 rfl ?_
  refine q_iload o_L_law_263 rfl ?_
  refine q_iconst (v := 2) o_L_law_265 (by decide) ?_
  refine q_iadd o_L_law_266 ?_
  refine q_sld (i := i + 2) o_L_law_267 (nI_add i 2) (by omega) hN ?_
  refine q_i2l o_L_law_268 ?_
  refine q_ldc2 (v := 4294967295) o_L_law_269 (by decide +kernel) ?_
  refine q_land o_L_law_272 ?_
  refine q_lor o_L_law_273 ?_
  refine q_aload_n o_L_law_274 rfl ?_
  refine q_iload o_L_law_275 rfl ?_
  refine q_iconst (v := 3) o_L_law_277 (by decide) ?_
  refine q_iadd o_L_law_278 ?_
  refine q_sld (i := i + 3) o_L_law_279 (nI_add i 3) (by omega) hN ?_
  refine q_i2l o_L_law_280 ?_
  refine q_bipush (v := 32) o_L_law_281 (by decide) ?_
  refine q_lshl o_L_law_283 ?_
  refine q_aload_n o_L_law_284 rfl ?_
  refine q_iload o_L_law_285 rfl ?_
  refine q_iconst (v := 4) o_L_law_287 (by decide) ?_
  refine q_iadd o_L_law_288 ?_
  refine q_sld (i := i + 4) o_L_law_289 (nI_add i 4) (by omega) hN ?_
  refine q_i2l o_L_law_290 ?_
  refine q_ldc2 (v := 4294967295) o_L_law_291 (by decide +kernel) ?_
  refine q_land o_L_law_294 ?_
  refine q_lor o_L_law_295 ?_
  refine q_aload_n o_L_law_296 rfl ?_
  refine q_iload o_L_law_297 rfl ?_
  refine q_iconst (v := 5) o_L_law_299 (by decide) ?_
  refine q_iadd o_L_law_300 ?_
  refine q_sld (i := i + 5) o_L_law_301 (nI_add i 5) (by omega) hN ?_
  refine q_i2l o_L_law_302 ?_
  refine q_bipush (v := 32) o_L_law_303 (by decide) ?_
  refine q_lshl o_L_law_305 ?_
  refine q_aload_n o_L_law_306 rfl ?_
  refine q_iload o_L_law_307 rfl ?_
  refine q_bipush (v := 6) o_L_law_309 (by decide) ?_
  refine q_iadd o_L_law_311 ?_
  refine q_sld (i := i + 6) o_L_law_312 (nI_add i 6) (by omega) hN ?_
  refine q_i2l o_L_law_313 ?_
  refine q_ldc2 (v := 4294967295) o_L_law_314 (by decide +kernel) ?_
  refine q_land o_L_law_317 ?_
  refine q_lor o_L_law_318 ?_
  refine l_callVi _ (a := 159) (As := [.long (((g_xs G (i + 1)).toInt64 <<< ((32 : Int32).toInt64 &&& 63)) ||| ((g_xs G (i + 2)).toInt64 &&& 4294967295)), .long (((g_xs G (i + 3)).toInt64 <<< ((32 : Int32).toInt64 &&& 63)) ||| ((g_xs G (i + 4)).toInt64 &&& 4294967295)), .long (((g_xs G (i + 5)).toInt64 <<< ((32 : Int32).toInt64 &&& 63)) ||| ((g_xs G (i + 6)).toInt64 &&& 4294967295))]) (st := [.int (v)]) hs1 o_L_law_319 k_L_35 rfl rfl (Nat.le_of_ble_eq_true rfl) h (fun v' σ2 hs2 h => ?_)
  refine q_icmp_eq o_L_law_322 (fun _ => k σ2 hs2 h.2) (fun c => absurd h.1 c)
theorem vl_1 {G : q_G} {d b sb i : Nat} {σ : q_S} {Q : Option Value → q_S → Prop} (K : q_S → Prop) (hi : i + 7 ≤ g_L G) (hN : g_L G < 2 ^ 31) (hs : q_Sh σ) (h : q_Call G d 0 0 X_W_town [.ref 0] σ (q_ri (fun v σ1 => q_Call G d 0 0 X_M_town [.ref 159] σ1 (q_ri (fun v' σ2 => v = v' ∧ K σ2))))) (k : ∀ σ2, q_Sh σ2 → K σ2 → q_At G X_L_law (d + 1) b sb 1413 [some (.ref 1000), some (.ref 0), some (.ref 159), some (.ref 182), some (.int (nI i)), none, none] [] σ2 Q) : q_At G X_L_law (d + 1) b sb 327 [some (.ref 1000), some (.ref 0), some (.ref 159), some (.ref 182), some (.int (nI i)), none, none] [] σ Q := by
  refine q_aload_n o_L_law_327 rfl ?_
  refine l_callVi _ (a := 0) (As := []) (st := []) hs o_L_law_328 k_L_36 rfl rfl (Nat.le_of_ble_eq_true rfl) h (fun v σ1 hs1 h => ?_)
  refine q_aload_n o_L_law_331 rfl ?_
  refine l_callVi _ (a := 159) (As := []) (st := [.int (v)]) hs1 o_L_law_332 k_L_40 rfl rfl (Nat.le_of_ble_eq_true rfl) h (fun v' σ2 hs2 h => ?_)
  refine q_icmp_eq o_L_law_335 (fun _ => k σ2 hs2 h.2) (fun c => absurd h.1 c)
theorem vl_2 {G : q_G} {d b sb i : Nat} {σ : q_S} {Q : Option Value → q_S → Prop} (K : q_S → Prop) (hi : i + 7 ≤ g_L G) (hN : g_L G < 2 ^ 31) (hs : q_Sh σ) (h : q_Call G d 0 0 X_W_days [.ref 0] σ (q_ri (fun v σ1 => q_Call G d 0 0 X_M_days [.ref 159] σ1 (q_ri (fun v' σ2 => v = v' ∧ K σ2))))) (k : ∀ σ2, q_Sh σ2 → K σ2 → q_At G X_L_law (d + 1) b sb 1413 [some (.ref 1000), some (.ref 0), some (.ref 159), some (.ref 182), some (.int (nI i)), none, none] [] σ2 Q) : q_At G X_L_law (d + 1) b sb 340 [some (.ref 1000), some (.ref 0), some (.ref 159), some (.ref 182), some (.int (nI i)), none, none] [] σ Q := by
  refine q_aload_n o_L_law_340 rfl ?_
  refine l_callVi _ (a := 0) (As := []) (st := []) hs o_L_law_341 k_L_41 rfl rfl (Nat.le_of_ble_eq_true rfl) h (fun v σ1 hs1 h => ?_)
  refine q_aload_n o_L_law_344 rfl ?_
  refine l_callVi _ (a := 159) (As := []) (st := [.int (v)]) hs1 o_L_law_345 k_L_44 rfl rfl (Nat.le_of_ble_eq_true rfl) h (fun v' σ2 hs2 h => ?_)
  refine q_icmp_eq o_L_law_348 (fun _ => k σ2 hs2 h.2) (fun c => absurd h.1 c)
theorem vl_3 {G : q_G} {d b sb i : Nat} {σ : q_S} {Q : Option Value → q_S → Prop} (K : q_S → Prop) (hi : i + 7 ≤ g_L G) (hN : g_L G < 2 ^ 31) (hs : q_Sh σ) (h : q_Call G d 0 0 X_W_house [.ref 0, .int (g_xs G (i + 1))] σ (q_ri (fun v σ1 => q_Call G d 0 0 X_M_house [.ref 159, .int (g_xs G (i + 1))] σ1 (q_ri (fun v' σ2 => v = v' ∧ K σ2))))) (k : ∀ σ2, q_Sh σ2 → K σ2 → q_At G X_L_law (d + 1) b sb 1413 [some (.ref 1000), some (.ref 0), some (.ref 159), some (.ref 182), some (.int (nI i)), none, none] [] σ2 Q) : q_At G X_L_law (d + 1) b sb 353 [some (.ref 1000), some (.ref 0), some (.ref 159), some (.ref 182), some (.int (nI i)), none, none] [] σ Q := by
  refine q_aload_n o_L_law_353 rfl ?_
  refine q_aload_n o_L_law_354 rfl ?_
  refine q_iload o_L_law_355 rfl ?_
  refine q_iconst (v := 1) o_L_law_357 (by decide) ?_
  refine q_iadd o_L_law_358 ?_
  refine q_sld (i := i + 1) o_L_law_359 (nI_add i 1) (by omega) hN ?_
  refine l_callVi _ (a := 0) (As := [.int (g_xs G (i + 1))]) (st := []) hs o_L_law_360 k_L_45 rfl rfl (Nat.le_of_ble_eq_true rfl) h (fun v σ1 hs1 h => ?_)
  refine q_aload_n o_L_law_363 rfl ?_
  refine q_aload_n o_L_law_364 rfl ?_
  refine q_iload o_L_law_365 rfl ?_
  refine q_iconst (v := 1) o_L_law_367 (by decide) ?_
  refine q_iadd o_L_law_368 ?_
  refine q_sld (i := i + 1) o_L_law_369 (nI_add i 1) (by omega) hN ?_
  refine l_callVi _ (a := 159) (As := [.int (g_xs G (i + 1))]) (st := [.int (v)]) hs1 o_L_law_370 k_L_48 rfl rfl (Nat.le_of_ble_eq_true rfl) h (fun v' σ2 hs2 h => ?_)
  refine q_icmp_eq o_L_law_373 (fun _ => k σ2 hs2 h.2) (fun c => absurd h.1 c)
theorem vl_4 {G : q_G} {d b sb i : Nat} {σ : q_S} {Q : Option Value → q_S → Prop} (K : q_S → Prop) (hi : i + 7 ≤ g_L G) (hN : g_L G < 2 ^ 31) (hs : q_Sh σ) (h : q_Call G d 0 0 X_W_wall [.ref 0, .int (g_xs G (i + 1)), .int (g_xs G (i + 2))] σ (q_ri (fun v σ1 => q_Call G d 0 0 X_M_wall [.ref 159, .int (g_xs G (i + 1)), .int (g_xs G (i + 2))] σ1 (q_ri (fun v' σ2 => v = v' ∧ K σ2))))) (k : ∀ σ2, q_Sh σ2 → K σ2 → q_At G X_L_law (d + 1) b sb 1413 [some (.ref 1000), some (.ref 0), some (.ref 159), some (.ref 182), some (.int (nI i)), none, none] [] σ2 Q) : q_At G X_L_law (d + 1) b sb 378 [some (.ref 1000), some (.ref 0), some (.ref 159), some (.ref 182), some (.int (nI i)), none, none] [] σ Q := by
  refine q_aload_n o_L_law_378 rfl ?_
  refine q_aload_n o_L_law_379 rfl ?_
  refine q_iload o_L_law_380 rfl ?_
  refine q_iconst (v := 1) o_L_law_382 (by decide) ?_
  refine q_iadd o_L_law_383 ?_
  refine q_sld (i := i + 1) o_L_law_384 (nI_add i 1) (by omega) hN ?_
  refine q_aload_n o_L_law_385 rfl ?_
  refine q_iload o_L_law_386 rfl ?_
  refine q_iconst (v := 2) o_L_law_388 (by decide) ?_
  refine q_iadd o_L_law_389 ?_
  refine q_sld (i := i + 2) o_L_law_390 (nI_add i 2) (by omega) hN ?_
  refine l_callVi _ (a := 0) (As := [.int (g_xs G (i + 1)), .int (g_xs G (i + 2))]) (st := []) hs o_L_law_391 k_L_49 rfl rfl (Nat.le_of_ble_eq_true rfl) h (fun v σ1 hs1 h => ?_)
  refine q_aload_n o_L_law_394 rfl ?_
  refine q_aload_n o_L_law_395 rfl ?_
  refine q_iload o_L_law_396 rfl ?_
  refine q_iconst (v := 1) o_L_law_398 (by decide) ?_
  refine q_iadd o_L_law_399 ?_
  refine q_sld (i := i + 1) o_L_law_400 (nI_add i 1) (by omega) hN ?_
  refine q_aload_n o_L_law_401 rfl ?_
  refine q_iload o_L_law_402 rfl ?_
  refine q_iconst (v := 2) o_L_law_404 (by decide) ?_
  refine q_iadd o_L_law_405 ?_
  refine q_sld (i := i + 2) o_L_law_406 (nI_add i 2) (by omega) hN ?_
  refine l_callVi _ (a := 159) (As := [.int (g_xs G (i + 1)), .int (g_xs G (i + 2))]) (st := [.int (v)]) hs1 o_L_law_407 k_L_53 rfl rfl (Nat.le_of_ble_eq_true rfl) h (fun v' σ2 hs2 h => ?_)
  refine q_icmp_eq o_L_law_410 (fun _ => k σ2 hs2 h.2) (fun c => absurd h.1 c)
theorem vl_5 {G : q_G} {d b sb i : Nat} {σ : q_S} {Q : Option Value → q_S → Prop} (K : q_S → Prop) (hi : i + 7 ≤ g_L G) (hN : g_L G < 2 ^ 31) (hs : q_Sh σ) (h : q_Call G d 0 0 X_W_family [.ref 0, .int (g_xs G (i + 1)), .int (g_xs G (i + 2))] σ (q_ri (fun v σ1 => q_Call G d 0 0 X_M_family [.ref 159, .int (g_xs G (i + 1)), .int (g_xs G (i + 2))] σ1 (q_ri (fun v' σ2 => v = v' ∧ K σ2))))) (k : ∀ σ2, q_Sh σ2 → K σ2 → q_At G X_L_law (d + 1) b sb 1413 [some (.ref 1000), some (.ref 0), some (.ref 159), some (.ref 182), some (.int (nI i)), none, none] [] σ2 Q) : q_At G X_L_law (d + 1) b sb 415 [some (.ref 1000), some (.ref 0), some (.ref 159), some (.ref 182), some (.int (nI i)), none, none] [] σ Q := by
  refine q_aload_n o_L_law_415 rfl ?_
  refine q_aload_n o_L_law_416 rfl ?_
  refine q_iload o_L_law_417 rfl ?_
  refine q_iconst (v := 1) o_L_law_419 (by decide) ?_
  refine q_iadd o_L_law_420 ?_
  refine q_sld (i := i + 1) o_L_law_421 (nI_add i 1) (by omega) hN ?_
  refine q_aload_n o_L_law_422 rfl ?_
  refine q_iload o_L_law_423 rfl ?_
  refine q_iconst (v := 2) o_L_law_425 (by decide) ?_
  refine q_iadd o_L_law_426 ?_
  refine q_sld (i := i + 2) o_L_law_427 (nI_add i 2) (by omega) hN ?_
  refine l_callVi _ (a := 0) (As := [.int (g_xs G (i + 1)), .int (g_xs G (i + 2))]) (st := []) hs o_L_law_428 k_L_54 rfl rfl (Nat.le_of_ble_eq_true rfl) h (fun v σ1 hs1 h => ?_)
  refine q_aload_n o_L_law_431 rfl ?_
  refine q_aload_n o_L_law_432 rfl ?_
  refine q_iload o_L_law_433 rfl ?_
  refine q_iconst (v := 1) o_L_law_435 (by decide) ?_
  refine q_iadd o_L_law_436 ?_
  refine q_sld (i := i + 1) o_L_law_437 (nI_add i 1) (by omega) hN ?_
  refine q_aload_n o_L_law_438 rfl ?_
  refine q_iload o_L_law_439 rfl ?_
  refine q_iconst (v := 2) o_L_law_441 (by decide) ?_
  refine q_iadd o_L_law_442 ?_
  refine q_sld (i := i + 2) o_L_law_443 (nI_add i 2) (by omega) hN ?_
  refine l_callVi _ (a := 159) (As := [.int (g_xs G (i + 1)), .int (g_xs G (i + 2))]) (st := [.int (v)]) hs1 o_L_law_444 k_L_57 rfl rfl (Nat.le_of_ble_eq_true rfl) h (fun v' σ2 hs2 h => ?_)
  refine q_icmp_eq o_L_law_447 (fun _ => k σ2 hs2 h.2) (fun c => absurd h.1 c)
theorem vl_6 {G : q_G} {d b sb i : Nat} {σ : q_S} {Q : Option Value → q_S → Prop} (K : q_S → Prop) (hi : i + 7 ≤ g_L G) (hN : g_L G < 2 ^ 31) (hs : q_Sh σ) (h : h_Call G d X_L_joy [(0, 9, 12, 13)] [.ref 0, .int (g_xs G (i + 1)), .ref 182] σ (fun r σ1 => ∃ o : Option Int32, r = some (.int (thr o)) ∧ q_Sh σ1 ∧ (∀ v, o = some v → q_L σ1 182 0 = v.toInt64) ∧ q_Call G d 0 0 X_M_joy [.ref 159, .int (g_xs G (i + 1))] σ1 (q_ri (fun w σ2 => w = o.getD 0 ∧ q_I σ2 159 0 = thr o ∧ q_L σ2 182 0 = q_L σ1 182 0 ∧ K σ2)))) (k : ∀ σ2, q_Sh σ2 → K σ2 → q_At G X_L_law (d + 1) b sb 1413 [some (.ref 1000), some (.ref 0), some (.ref 159), some (.ref 182), some (.int (nI i)), none, none] [] σ2 Q) : q_At G X_L_law (d + 1) (1 + b) (6 + sb) 452 [some (.ref 1000), some (.ref 0), some (.ref 159), some (.ref 182), some (.int (nI i)), none, none] [] σ Q := by
  refine q_aload_n o_L_law_452 rfl ?_
  refine q_aload_n o_L_law_453 rfl ?_
  refine q_iload o_L_law_454 rfl ?_
  refine q_iconst (v := 1) o_L_law_456 (by decide) ?_
  refine q_iadd o_L_law_457 ?_
  refine q_sld (i := i + 1) o_L_law_458 (nI_add i 1) (by omega) hN ?_
  refine q_aload_n o_L_law_459 rfl ?_
  refine q_callH (b := b) (sb := sb) (As := [.ref 0, .int (g_xs G (i + 1)), .ref 182]) (st := []) o_L_law_460 kh_joy rfl (Nat.le_of_ble_eq_true rfl) h (fun r σ1 hr => ?_)
  obtain ⟨o, rfl, hs1, e3, h⟩ := hr
  refine ⟨q_no_i, q_nNT hs1, ?_⟩
  refine l_ist (ls' := [some (.ref 1000), some (.ref 0), some (.ref 159), some (.ref 182), some (.int (nI i)), some (.int (thr o)), none]) o_L_law_463 (Nat.le_of_ble_eq_true rfl) rfl ?_
  refine q_aload_n o_L_law_465 rfl ?_
  refine q_aload_n o_L_law_466 rfl ?_
  refine q_iload o_L_law_467 rfl ?_
  refine q_iconst (v := 1) o_L_law_469 (by decide) ?_
  refine q_iadd o_L_law_470 ?_
  refine q_sld (i := i + 1) o_L_law_471 (nI_add i 1) (by omega) hN ?_
  refine l_callVi _ (a := 159) (As := [.int (g_xs G (i + 1))]) (st := []) hs1 o_L_law_472 k_L_63 rfl rfl (Nat.le_of_ble_eq_true rfl) h (fun w σ2 hs2 h => ?_)
  obtain ⟨e4, e5, e6, hK⟩ := h
  refine l_ist (ls' := [some (.ref 1000), some (.ref 0), some (.ref 159), some (.ref 182), some (.int (nI i)), some (.int (thr o)), some (.int w)]) o_L_law_475 (Nat.le_of_ble_eq_true rfl) rfl ?_
  refine q_aload_n o_L_law_477 rfl ?_
  refine l_thrown hs2 o_L_law_478 ?_
  refine q_iload o_L_law_481 rfl ?_
  refine q_icmp_eq o_L_law_483 (fun _ => ?_) (fun c => absurd e5 c)
  refine q_iload o_L_law_488 rfl ?_
  refine q_if_ne o_L_law_490 (fun _ => ?_) (fun c => ?_)
  · refine q_goto o_L_law_505 ?_
    exact l_weak (k σ2 hs2 hK)
  refine q_aload_n o_L_law_493 rfl ?_
  refine q_iconst (v := 0) o_L_law_494 (by decide) ?_
  refine l_out hs2 o_L_law_495 ?_
  refine q_iload o_L_law_496 rfl ?_
  refine q_i2l o_L_law_498 ?_
  refine q_lcmp o_L_law_499 ?_
  refine q_if_eq o_L_law_500 (fun _ => ?_) (fun c2 => absurd (l_same c e3 e4 e6) c2)
  refine q_goto o_L_law_505 ?_
  exact l_weak (k σ2 hs2 hK)
theorem vl_7 {G : q_G} {d b sb i : Nat} {σ : q_S} {Q : Option Value → q_S → Prop} (K : q_S → Prop) (hi : i + 7 ≤ g_L G) (hN : g_L G < 2 ^ 31) (hs : q_Sh σ) (h : q_Call G d 0 0 X_W_owes [.ref 0, .int (g_xs G (i + 1)), .int (g_xs G (i + 2))] σ (q_ri (fun v σ1 => q_Call G d 0 0 X_M_owes [.ref 159, .int (g_xs G (i + 1)), .int (g_xs G (i + 2))] σ1 (q_ri (fun v' σ2 => v = v' ∧ K σ2))))) (k : ∀ σ2, q_Sh σ2 → K σ2 → q_At G X_L_law (d + 1) b sb 1413 [some (.ref 1000), some (.ref 0), some (.ref 159), some (.ref 182), some (.int (nI i)), none, none] [] σ2 Q) : q_At G X_L_law (d + 1) b sb 508 [some (.ref 1000), some (.ref 0), some (.ref 159), some (.ref 182), some (.int (nI i)), none, none] [] σ Q := by
  refine q_aload_n o_L_law_508 rfl ?_
  refine q_aload_n o_L_law_509 rfl ?_
  refine q_iload o_L_law_510 rfl ?_
  refine q_iconst (v := 1) o_L_law_512 (by decide) ?_
  refine q_iadd o_L_law_513 ?_
  refine q_sld (i := i + 1) o_L_law_514 (nI_add i 1) (by omega) hN ?_
  refine q_aload_n o_L_law_515 rfl ?_
  refine q_iload o_L_law_516 rfl ?_
  refine q_iconst (v := 2) o_L_law_518 (by decide) ?_
  refine q_iadd o_L_law_519 ?_
  refine q_sld (i := i + 2) o_L_law_520 (nI_add i 2) (by omega) hN ?_
  refine l_callVi _ (a := 0) (As := [.int (g_xs G (i + 1)), .int (g_xs G (i + 2))]) (st := []) hs o_L_law_521 k_L_67 rfl rfl (Nat.le_of_ble_eq_true rfl) h (fun v σ1 hs1 h => ?_)
  refine q_aload_n o_L_law_524 rfl ?_
  refine q_aload_n o_L_law_525 rfl ?_
  refine q_iload o_L_law_526 rfl ?_
  refine q_iconst (v := 1) o_L_law_528 (by decide) ?_
  refine q_iadd o_L_law_529 ?_
  refine q_sld (i := i + 1) o_L_law_530 (nI_add i 1) (by omega) hN ?_
  refine q_aload_n o_L_law_531 rfl ?_
  refine q_iload o_L_law_532 rfl ?_
  refine q_iconst (v := 2) o_L_law_534 (by decide) ?_
  refine q_iadd o_L_law_535 ?_
  refine q_sld (i := i + 2) o_L_law_536 (nI_add i 2) (by omega) hN ?_
  refine l_callVi _ (a := 159) (As := [.int (g_xs G (i + 1)), .int (g_xs G (i + 2))]) (st := [.int (v)]) hs1 o_L_law_537 k_L_70 rfl rfl (Nat.le_of_ble_eq_true rfl) h (fun v' σ2 hs2 h => ?_)
  refine q_icmp_eq o_L_law_540 (fun _ => k σ2 hs2 h.2) (fun c => absurd h.1 c)
theorem vl_8 {G : q_G} {d b sb i : Nat} {σ : q_S} {Q : Option Value → q_S → Prop} (K : q_S → Prop) (hi : i + 7 ≤ g_L G) (hN : g_L G < 2 ^ 31) (hs : q_Sh σ) (h : q_Call G d 0 0 X_W_draw [.ref 0, .int (g_xs G (i + 1))] σ (q_ri (fun v σ1 => q_Call G d 0 0 X_M_draw [.ref 159, .int (g_xs G (i + 1))] σ1 (q_ri (fun v' σ2 => v = v' ∧ K σ2))))) (k : ∀ σ2, q_Sh σ2 → K σ2 → q_At G X_L_law (d + 1) b sb 1413 [some (.ref 1000), some (.ref 0), some (.ref 159), some (.ref 182), some (.int (nI i)), none, none] [] σ2 Q) : q_At G X_L_law (d + 1) b sb 545 [some (.ref 1000), some (.ref 0), some (.ref 159), some (.ref 182), some (.int (nI i)), none, none] [] σ Q := by
  refine q_aload_n o_L_law_545 rfl ?_
  refine q_aload_n o_L_law_546 rfl ?_
  refine q_iload o_L_law_547 rfl ?_
  refine q_iconst (v := 1) o_L_law_549 (by decide) ?_
  refine q_iadd o_L_law_550 ?_
  refine q_sld (i := i + 1) o_L_law_551 (nI_add i 1) (by omega) hN ?_
  refine l_callVi _ (a := 0) (As := [.int (g_xs G (i + 1))]) (st := []) hs o_L_law_552 k_L_71 rfl rfl (Nat.le_of_ble_eq_true rfl) h (fun v σ1 hs1 h => ?_)
  refine q_aload_n o_L_law_555 rfl ?_
  refine q_aload_n o_L_law_556 rfl ?_
  refine q_iload o_L_law_557 rfl ?_
  refine q_iconst (v := 1) o_L_law_559 (by decide) ?_
  refine q_iadd o_L_law_560 ?_
  refine q_sld (i := i + 1) o_L_law_561 (nI_add i 1) (by omega) hN ?_
  refine l_callVi _ (a := 159) (As := [.int (g_xs G (i + 1))]) (st := [.int (v)]) hs1 o_L_law_562 k_L_74 rfl rfl (Nat.le_of_ble_eq_true rfl) h (fun v' σ2 hs2 h => ?_)
  refine q_icmp_eq o_L_law_565 (fun _ => k σ2 hs2 h.2) (fun c => absurd h.1 c)
theorem vl_9 {G : q_G} {d b sb i : Nat} {σ : q_S} {Q : Option Value → q_S → Prop} (K : q_S → Prop) (hi : i + 7 ≤ g_L G) (hN : g_L G < 2 ^ 31) (hs : q_Sh σ) (h : q_Call G d 0 0 X_W_swap [.ref 0, .int (g_xs G (i + 1)), .int (g_xs G (i + 2))] σ (q_ri (fun v σ1 => q_Call G d 0 0 X_M_swap [.ref 159, .int (g_xs G (i + 1)), .int (g_xs G (i + 2))] σ1 (q_ri (fun v' σ2 => v = v' ∧ K σ2))))) (k : ∀ σ2, q_Sh σ2 → K σ2 → q_At G X_L_law (d + 1) b sb 1413 [some (.ref 1000), some (.ref 0), some (.ref 159), some (.ref 182), some (.int (nI i)), none, none] [] σ2 Q) : q_At G X_L_law (d + 1) b sb 570 [some (.ref 1000), some (.ref 0), some (.ref 159), some (.ref 182), some (.int (nI i)), none, none] [] σ Q := by
  refine q_aload_n o_L_law_570 rfl ?_
  refine q_aload_n o_L_law_571 rfl ?_
  refine q_iload o_L_law_572 rfl ?_
  refine q_iconst (v := 1) o_L_law_574 (by decide) ?_
  refine q_iadd o_L_law_575 ?_
  refine q_sld (i := i + 1) o_L_law_576 (nI_add i 1) (by omega) hN ?_
  refine q_aload_n o_L_law_577 rfl ?_
  refine q_iload o_L_law_578 rfl ?_
  refine q_iconst (v := 2) o_L_law_580 (by decide) ?_
  refine q_iadd o_L_law_581 ?_
  refine q_sld (i := i + 2) o_L_law_582 (nI_add i 2) (by omega) hN ?_
  refine l_callVi _ (a := 0) (As := [.int (g_xs G (i + 1)), .int (g_xs G (i + 2))]) (st := []) hs o_L_law_583 k_L_75 rfl rfl (Nat.le_of_ble_eq_true rfl) h (fun v σ1 hs1 h => ?_)
  refine q_aload_n o_L_law_586 rfl ?_
  refine q_aload_n o_L_law_587 rfl ?_
  refine q_iload o_L_law_588 rfl ?_
  refine q_iconst (v := 1) o_L_law_590 (by decide) ?_
  refine q_iadd o_L_law_591 ?_
  refine q_sld (i := i + 1) o_L_law_592 (nI_add i 1) (by omega) hN ?_
  refine q_aload_n o_L_law_593 rfl ?_
  refine q_iload o_L_law_594 rfl ?_
  refine q_iconst (v := 2) o_L_law_596 (by decide) ?_
  refine q_iadd o_L_law_597 ?_
  refine q_sld (i := i + 2) o_L_law_598 (nI_add i 2) (by omega) hN ?_
  refine l_callVi _ (a := 159) (As := [.int (g_xs G (i + 1)), .int (g_xs G (i + 2))]) (st := [.int (v)]) hs1 o_L_law_599 k_L_79 rfl rfl (Nat.le_of_ble_eq_true rfl) h (fun v' σ2 hs2 h => ?_)
  refine q_icmp_eq o_L_law_602 (fun _ => k σ2 hs2 h.2) (fun c => absurd h.1 c)
theorem vl_10 {G : q_G} {d b sb i : Nat} {σ : q_S} {Q : Option Value → q_S → Prop} (K : q_S → Prop) (hi : i + 7 ≤ g_L G) (hN : g_L G < 2 ^ 31) (hs : q_Sh σ) (h : q_Call G d 0 0 X_W_lend [.ref 0, .int (g_xs G (i + 1)), .int (g_xs G (i + 2)), .int (g_xs G (i + 3))] σ (q_ri (fun v σ1 => q_Call G d 0 0 X_M_lend [.ref 159, .int (g_xs G (i + 1)), .int (g_xs G (i + 2)), .int (g_xs G (i + 3))] σ1 (q_ri (fun v' σ2 => v = v' ∧ K σ2))))) (k : ∀ σ2, q_Sh σ2 → K σ2 → q_At G X_L_law (d + 1) b sb 1413 [some (.ref 1000), some (.ref 0), some (.ref 159), some (.ref 182), some (.int (nI i)), none, none] [] σ2 Q) : q_At G X_L_law (d + 1) b sb 607 [some (.ref 1000), some (.ref 0), some (.ref 159), some (.ref 182), some (.int (nI i)), none, none] [] σ Q := by
  refine q_aload_n o_L_law_607 rfl ?_
  refine q_aload_n o_L_law_608 rfl ?_
  refine q_iload o_L_law_609 rfl ?_
  refine q_iconst (v := 1) o_L_law_611 (by decide) ?_
  refine q_iadd o_L_law_612 ?_
  refine q_sld (i := i + 1) o_L_law_613 (nI_add i 1) (by omega) hN ?_
  refine q_aload_n o_L_law_614 rfl ?_
  refine q_iload o_L_law_615 rfl ?_
  refine q_iconst (v := 2) o_L_law_617 (by decide) ?_
  refine q_iadd o_L_law_618 ?_
  refine q_sld (i := i + 2) o_L_law_619 (nI_add i 2) (by omega) hN ?_
  refine q_aload_n o_L_law_620 rfl ?_
  refine q_iload o_L_law_621 rfl ?_
  refine q_iconst (v := 3) o_L_law_623 (by decide) ?_
  refine q_iadd o_L_law_624 ?_
  refine q_sld (i := i + 3) o_L_law_625 (nI_add i 3) (by omega) hN ?_
  refine l_callVi _ (a := 0) (As := [.int (g_xs G (i + 1)), .int (g_xs G (i + 2)), .int (g_xs G (i + 3))]) (st := []) hs o_L_law_626 k_L_80 rfl rfl (Nat.le_of_ble_eq_true rfl) h (fun v σ1 hs1 h => ?_)
  refine q_aload_n o_L_law_629 rfl ?_
  refine q_aload_n o_L_law_630 rfl ?_
  refine q_iload o_L_law_631 rfl ?_
  refine q_iconst (v := 1) o_L_law_633 (by decide) ?_
  refine q_iadd o_L_law_634 ?_
  refine q_sld (i := i + 1) o_L_law_635 (nI_add i 1) (by omega) hN ?_
  refine q_aload_n o_L_law_636 rfl ?_
  refine q_iload o_L_law_637 rfl ?_
  refine q_iconst (v := 2) o_L_law_639 (by decide) ?_
  refine q_iadd o_L_law_640 ?_
  refine q_sld (i := i + 2) o_L_law_641 (nI_add i 2) (by omega) hN ?_
  refine q_aload_n o_L_law_642 rfl ?_
  refine q_iload o_L_law_643 rfl ?_
  refine q_iconst (v := 3) o_L_law_645 (by decide) ?_
  refine q_iadd o_L_law_646 ?_
  refine q_sld (i := i + 3) o_L_law_647 (nI_add i 3) (by omega) hN ?_
  refine l_callVi _ (a := 159) (As := [.int (g_xs G (i + 1)), .int (g_xs G (i + 2)), .int (g_xs G (i + 3))]) (st := [.int (v)]) hs1 o_L_law_648 k_L_84 rfl rfl (Nat.le_of_ble_eq_true rfl) h (fun v' σ2 hs2 h => ?_)
  refine q_icmp_eq o_L_law_651 (fun _ => k σ2 hs2 h.2) (fun c => absurd h.1 c)
theorem vl_11 {G : q_G} {d b sb i : Nat} {σ : q_S} {Q : Option Value → q_S → Prop} (K : q_S → Prop) (hi : i + 7 ≤ g_L G) (hN : g_L G < 2 ^ 31) (hs : q_Sh σ) (h : q_Call G d 0 0 X_W_pay [.ref 0, .int (g_xs G (i + 1)), .int (g_xs G (i + 2)), .int (g_xs G (i + 3))] σ (q_ri (fun v σ1 => q_Call G d 0 0 X_M_pay [.ref 159, .int (g_xs G (i + 1)), .int (g_xs G (i + 2)), .int (g_xs G (i + 3))] σ1 (q_ri (fun v' σ2 => v = v' ∧ K σ2))))) (k : ∀ σ2, q_Sh σ2 → K σ2 → q_At G X_L_law (d + 1) b sb 1413 [some (.ref 1000), some (.ref 0), some (.ref 159), some (.ref 182), some (.int (nI i)), none, none] [] σ2 Q) : q_At G X_L_law (d + 1) b sb 656 [some (.ref 1000), some (.ref 0), some (.ref 159), some (.ref 182), some (.int (nI i)), none, none] [] σ Q := by
  refine q_aload_n o_L_law_656 rfl ?_
  refine q_aload_n o_L_law_657 rfl ?_
  refine q_iload o_L_law_658 rfl ?_
  refine q_iconst (v := 1) o_L_law_660 (by decide) ?_
  refine q_iadd o_L_law_661 ?_
  refine q_sld (i := i + 1) o_L_law_662 (nI_add i 1) (by omega) hN ?_
  refine q_aload_n o_L_law_663 rfl ?_
  refine q_iload o_L_law_664 rfl ?_
  refine q_iconst (v := 2) o_L_law_666 (by decide) ?_
  refine q_iadd o_L_law_667 ?_
  refine q_sld (i := i + 2) o_L_law_668 (nI_add i 2) (by omega) hN ?_
  refine q_aload_n o_L_law_669 rfl ?_
  refine q_iload o_L_law_670 rfl ?_
  refine q_iconst (v := 3) o_L_law_672 (by decide) ?_
  refine q_iadd o_L_law_673 ?_
  refine q_sld (i := i + 3) o_L_law_674 (nI_add i 3) (by omega) hN ?_
  refine l_callVi _ (a := 0) (As := [.int (g_xs G (i + 1)), .int (g_xs G (i + 2)), .int (g_xs G (i + 3))]) (st := []) hs o_L_law_675 k_L_85 rfl rfl (Nat.le_of_ble_eq_true rfl) h (fun v σ1 hs1 h => ?_)
  refine q_aload_n o_L_law_678 rfl ?_
  refine q_aload_n o_L_law_679 rfl ?_
  refine q_iload o_L_law_680 rfl ?_
  refine q_iconst (v := 1) o_L_law_682 (by decide) ?_
  refine q_iadd o_L_law_683 ?_
  refine q_sld (i := i + 1) o_L_law_684 (nI_add i 1) (by omega) hN ?_
  refine q_aload_n o_L_law_685 rfl ?_
  refine q_iload o_L_law_686 rfl ?_
  refine q_iconst (v := 2) o_L_law_688 (by decide) ?_
  refine q_iadd o_L_law_689 ?_
  refine q_sld (i := i + 2) o_L_law_690 (nI_add i 2) (by omega) hN ?_
  refine q_aload_n o_L_law_691 rfl ?_
  refine q_iload o_L_law_692 rfl ?_
  refine q_iconst (v := 3) o_L_law_694 (by decide) ?_
  refine q_iadd o_L_law_695 ?_
  refine q_sld (i := i + 3) o_L_law_696 (nI_add i 3) (by omega) hN ?_
  refine l_callVi _ (a := 159) (As := [.int (g_xs G (i + 1)), .int (g_xs G (i + 2)), .int (g_xs G (i + 3))]) (st := [.int (v)]) hs1 o_L_law_697 k_L_88 rfl rfl (Nat.le_of_ble_eq_true rfl) h (fun v' σ2 hs2 h => ?_)
  refine q_icmp_eq o_L_law_700 (fun _ => k σ2 hs2 h.2) (fun c => absurd h.1 c)
theorem vl_12 {G : q_G} {d b sb i : Nat} {σ : q_S} {Q : Option Value → q_S → Prop} (K : q_S → Prop) (hi : i + 7 ≤ g_L G) (hN : g_L G < 2 ^ 31) (hs : q_Sh σ) (h : q_Call G d 0 0 X_W_undo [.ref 0] σ (q_ri (fun v σ1 => q_Call G d 0 0 X_M_undo [.ref 159] σ1 (q_ri (fun v' σ2 => v = v' ∧ K σ2))))) (k : ∀ σ2, q_Sh σ2 → K σ2 → q_At G X_L_law (d + 1) b sb 1413 [some (.ref 1000), some (.ref 0), some (.ref 159), some (.ref 182), some (.int (nI i)), none, none] [] σ2 Q) : q_At G X_L_law (d + 1) b sb 705 [some (.ref 1000), some (.ref 0), some (.ref 159), some (.ref 182), some (.int (nI i)), none, none] [] σ Q := by
  refine q_aload_n o_L_law_705 rfl ?_
  refine l_callVi _ (a := 0) (As := []) (st := []) hs o_L_law_706 k_L_89 rfl rfl (Nat.le_of_ble_eq_true rfl) h (fun v σ1 hs1 h => ?_)
  refine q_aload_n o_L_law_709 rfl ?_
  refine l_callVi _ (a := 159) (As := []) (st := [.int (v)]) hs1 o_L_law_710 k_L_93 rfl rfl (Nat.le_of_ble_eq_true rfl) h (fun v' σ2 hs2 h => ?_)
  refine q_icmp_eq o_L_law_713 (fun _ => k σ2 hs2 h.2) (fun c => absurd h.1 c)
theorem vl_13 {G : q_G} {d b sb i : Nat} {σ : q_S} {Q : Option Value → q_S → Prop} (K : q_S → Prop) (hi : i + 7 ≤ g_L G) (hN : g_L G < 2 ^ 31) (hs : q_Sh σ) (h : q_Call G d 0 0 X_W_judged [.ref 0, .int (g_xs G (i + 1))] σ (q_ri (fun v σ1 => q_Call G d 0 0 X_M_judged [.ref 159, .int (g_xs G (i + 1))] σ1 (q_ri (fun v' σ2 => v = v' ∧ K σ2))))) (k : ∀ σ2, q_Sh σ2 → K σ2 → q_At G X_L_law (d + 1) b sb 1413 [some (.ref 1000), some (.ref 0), some (.ref 159), some (.ref 182), some (.int (nI i)), none, none] [] σ2 Q) : q_At G X_L_law (d + 1) b sb 718 [some (.ref 1000), some (.ref 0), some (.ref 159), some (.ref 182), some (.int (nI i)), none, none] [] σ Q := by
  refine q_aload_n o_L_law_718 rfl ?_
  refine q_aload_n o_L_law_719 rfl ?_
  refine q_iload o_L_law_720 rfl ?_
  refine q_iconst (v := 1) o_L_law_722 (by decide) ?_
  refine q_iadd o_L_law_723 ?_
  refine q_sld (i := i + 1) o_L_law_724 (nI_add i 1) (by omega) hN ?_
  refine l_callVi _ (a := 0) (As := [.int (g_xs G (i + 1))]) (st := []) hs o_L_law_725 k_L_94 rfl rfl (Nat.le_of_ble_eq_true rfl) h (fun v σ1 hs1 h => ?_)
  refine q_aload_n o_L_law_728 rfl ?_
  refine q_aload_n o_L_law_729 rfl ?_
  refine q_iload o_L_law_730 rfl ?_
  refine q_iconst (v := 1) o_L_law_732 (by decide) ?_
  refine q_iadd o_L_law_733 ?_
  refine q_sld (i := i + 1) o_L_law_734 (nI_add i 1) (by omega) hN ?_
  refine l_callVi _ (a := 159) (As := [.int (g_xs G (i + 1))]) (st := [.int (v)]) hs1 o_L_law_735 k_L_97 rfl rfl (Nat.le_of_ble_eq_true rfl) h (fun v' σ2 hs2 h => ?_)
  refine q_icmp_eq o_L_law_738 (fun _ => k σ2 hs2 h.2) (fun c => absurd h.1 c)
theorem vl_14 {G : q_G} {d b sb i : Nat} {σ : q_S} {Q : Option Value → q_S → Prop} (K : q_S → Prop) (hi : i + 7 ≤ g_L G) (hN : g_L G < 2 ^ 31) (hs : q_Sh σ) (h : q_Call G d 0 0 X_W_broken [.ref 0] σ (q_ri (fun v σ1 => q_Call G d 0 0 X_M_broken [.ref 159] σ1 (q_ri (fun v' σ2 => v = v' ∧ K σ2))))) (k : ∀ σ2, q_Sh σ2 → K σ2 → q_At G X_L_law (d + 1) b sb 1413 [some (.ref 1000), some (.ref 0), some (.ref 159), some (.ref 182), some (.int (nI i)), none, none] [] σ2 Q) : q_At G X_L_law (d + 1) b sb 743 [some (.ref 1000), some (.ref 0), some (.ref 159), some (.ref 182), some (.int (nI i)), none, none] [] σ Q := by
  refine q_aload_n o_L_law_743 rfl ?_
  refine l_callVi _ (a := 0) (As := []) (st := []) hs o_L_law_744 k_L_98 rfl rfl (Nat.le_of_ble_eq_true rfl) h (fun v σ1 hs1 h => ?_)
  refine q_aload_n o_L_law_747 rfl ?_
  refine l_callVi _ (a := 159) (As := []) (st := [.int (v)]) hs1 o_L_law_748 k_L_101 rfl rfl (Nat.le_of_ble_eq_true rfl) h (fun v' σ2 hs2 h => ?_)
  refine q_icmp_eq o_L_law_751 (fun _ => k σ2 hs2 h.2) (fun c => absurd h.1 c)
theorem vl_15 {G : q_G} {d b sb i : Nat} {σ : q_S} {Q : Option Value → q_S → Prop} (K : q_S → Prop) (hi : i + 7 ≤ g_L G) (hN : g_L G < 2 ^ 31) (hs : q_Sh σ) (h : q_Call G d 0 0 X_W_odds [.ref 0, .int (g_xs G (i + 1)), .int (g_xs G (i + 2))] σ (q_ri (fun v σ1 => q_Call G d 0 0 X_M_odds [.ref 159, .int (g_xs G (i + 1)), .int (g_xs G (i + 2))] σ1 (q_ri (fun v' σ2 => v = v' ∧ K σ2))))) (k : ∀ σ2, q_Sh σ2 → K σ2 → q_At G X_L_law (d + 1) b sb 1413 [some (.ref 1000), some (.ref 0), some (.ref 159), some (.ref 182), some (.int (nI i)), none, none] [] σ2 Q) : q_At G X_L_law (d + 1) b sb 756 [some (.ref 1000), some (.ref 0), some (.ref 159), some (.ref 182), some (.int (nI i)), none, none] [] σ Q := by
  refine q_aload_n o_L_law_756 rfl ?_
  refine q_aload_n o_L_law_757 rfl ?_
  refine q_iload o_L_law_758 rfl ?_
  refine q_iconst (v := 1) o_L_law_760 (by decide) ?_
  refine q_iadd o_L_law_761 ?_
  refine q_sld (i := i + 1) o_L_law_762 (nI_add i 1) (by omega) hN ?_
  refine q_aload_n o_L_law_763 rfl ?_
  refine q_iload o_L_law_764 rfl ?_
  refine q_iconst (v := 2) o_L_law_766 (by decide) ?_
  refine q_iadd o_L_law_767 ?_
  refine q_sld (i := i + 2) o_L_law_768 (nI_add i 2) (by omega) hN ?_
  refine l_callVi _ (a := 0) (As := [.int (g_xs G (i + 1)), .int (g_xs G (i + 2))]) (st := []) hs o_L_law_769 k_L_102 rfl rfl (Nat.le_of_ble_eq_true rfl) h (fun v σ1 hs1 h => ?_)
  refine q_aload_n o_L_law_772 rfl ?_
  refine q_aload_n o_L_law_773 rfl ?_
  refine q_iload o_L_law_774 rfl ?_
  refine q_iconst (v := 1) o_L_law_776 (by decide) ?_
  refine q_iadd o_L_law_777 ?_
  refine q_sld (i := i + 1) o_L_law_778 (nI_add i 1) (by omega) hN ?_
  refine q_aload_n o_L_law_779 rfl ?_
  refine q_iload o_L_law_780 rfl ?_
  refine q_iconst (v := 2) o_L_law_782 (by decide) ?_
  refine q_iadd o_L_law_783 ?_
  refine q_sld (i := i + 2) o_L_law_784 (nI_add i 2) (by omega) hN ?_
  refine l_callVi _ (a := 159) (As := [.int (g_xs G (i + 1)), .int (g_xs G (i + 2))]) (st := [.int (v)]) hs1 o_L_law_785 k_L_105 rfl rfl (Nat.le_of_ble_eq_true rfl) h (fun v' σ2 hs2 h => ?_)
  refine q_icmp_eq o_L_law_788 (fun _ => k σ2 hs2 h.2) (fun c => absurd h.1 c)
theorem vl_16 {G : q_G} {d b sb i : Nat} {σ : q_S} {Q : Option Value → q_S → Prop} (K : q_S → Prop) (hi : i + 7 ≤ g_L G) (hN : g_L G < 2 ^ 31) (hs : q_Sh σ) (h : q_Call G d 0 0 X_W_peace [.ref 0, .int (g_xs G (i + 1)), .int (g_xs G (i + 2))] σ (q_ri (fun v σ1 => q_Call G d 0 0 X_M_peace [.ref 159, .int (g_xs G (i + 1)), .int (g_xs G (i + 2))] σ1 (q_ri (fun v' σ2 => v = v' ∧ K σ2))))) (k : ∀ σ2, q_Sh σ2 → K σ2 → q_At G X_L_law (d + 1) b sb 1413 [some (.ref 1000), some (.ref 0), some (.ref 159), some (.ref 182), some (.int (nI i)), none, none] [] σ2 Q) : q_At G X_L_law (d + 1) b sb 793 [some (.ref 1000), some (.ref 0), some (.ref 159), some (.ref 182), some (.int (nI i)), none, none] [] σ Q := by
  refine q_aload_n o_L_law_793 rfl ?_
  refine q_aload_n o_L_law_794 rfl ?_
  refine q_iload o_L_law_795 rfl ?_
  refine q_iconst (v := 1) o_L_law_797 (by decide) ?_
  refine q_iadd o_L_law_798 ?_
  refine q_sld (i := i + 1) o_L_law_799 (nI_add i 1) (by omega) hN ?_
  refine q_aload_n o_L_law_800 rfl ?_
  refine q_iload o_L_law_801 rfl ?_
  refine q_iconst (v := 2) o_L_law_803 (by decide) ?_
  refine q_iadd o_L_law_804 ?_
  refine q_sld (i := i + 2) o_L_law_805 (nI_add i 2) (by omega) hN ?_
  refine l_callVi _ (a := 0) (As := [.int (g_xs G (i + 1)), .int (g_xs G (i + 2))]) (st := []) hs o_L_law_806 k_L_106 rfl rfl (Nat.le_of_ble_eq_true rfl) h (fun v σ1 hs1 h => ?_)
  refine q_aload_n o_L_law_809 rfl ?_
  refine q_aload_n o_L_law_810 rfl ?_
  refine q_iload o_L_law_811 rfl ?_
  refine q_iconst (v := 1) o_L_law_813 (by decide) ?_
  refine q_iadd o_L_law_814 ?_
  refine q_sld (i := i + 1) o_L_law_815 (nI_add i 1) (by omega) hN ?_
  refine q_aload_n o_L_law_816 rfl ?_
  refine q_iload o_L_law_817 rfl ?_
  refine q_iconst (v := 2) o_L_law_819 (by decide) ?_
  refine q_iadd o_L_law_820 ?_
  refine q_sld (i := i + 2) o_L_law_821 (nI_add i 2) (by omega) hN ?_
  refine l_callVi _ (a := 159) (As := [.int (g_xs G (i + 1)), .int (g_xs G (i + 2))]) (st := [.int (v)]) hs1 o_L_law_822 k_L_109 rfl rfl (Nat.le_of_ble_eq_true rfl) h (fun v' σ2 hs2 h => ?_)
  refine q_icmp_eq o_L_law_825 (fun _ => k σ2 hs2 h.2) (fun c => absurd h.1 c)
theorem vl_17 {G : q_G} {d b sb i : Nat} {σ : q_S} {Q : Option Value → q_S → Prop} (K : q_S → Prop) (hi : i + 7 ≤ g_L G) (hN : g_L G < 2 ^ 31) (hs : q_Sh σ) (h : h_Call G d X_L_hope [(0, 9, 12, 13)] [.ref 0, .int (g_xs G (i + 1)), .ref 182] σ (fun r σ1 => ∃ o : Option Int32, r = some (.int (thr o)) ∧ q_Sh σ1 ∧ (∀ v, o = some v → q_L σ1 182 0 = v.toInt64) ∧ q_Call G d 0 0 X_M_hope [.ref 159, .int (g_xs G (i + 1))] σ1 (q_ri (fun w σ2 => w = o.getD 0 ∧ q_I σ2 159 0 = thr o ∧ q_L σ2 182 0 = q_L σ1 182 0 ∧ K σ2)))) (k : ∀ σ2, q_Sh σ2 → K σ2 → q_At G X_L_law (d + 1) b sb 1413 [some (.ref 1000), some (.ref 0), some (.ref 159), some (.ref 182), some (.int (nI i)), none, none] [] σ2 Q) : q_At G X_L_law (d + 1) (1 + b) (6 + sb) 830 [some (.ref 1000), some (.ref 0), some (.ref 159), some (.ref 182), some (.int (nI i)), none, none] [] σ Q := by
  refine q_aload_n o_L_law_830 rfl ?_
  refine q_aload_n o_L_law_831 rfl ?_
  refine q_iload o_L_law_832 rfl ?_
  refine q_iconst (v := 1) o_L_law_834 (by decide) ?_
  refine q_iadd o_L_law_835 ?_
  refine q_sld (i := i + 1) o_L_law_836 (nI_add i 1) (by omega) hN ?_
  refine q_aload_n o_L_law_837 rfl ?_
  refine q_callH (b := b) (sb := sb) (As := [.ref 0, .int (g_xs G (i + 1)), .ref 182]) (st := []) o_L_law_838 kh_hope rfl (Nat.le_of_ble_eq_true rfl) h (fun r σ1 hr => ?_)
  obtain ⟨o, rfl, hs1, e3, h⟩ := hr
  refine ⟨q_no_i, q_nNT hs1, ?_⟩
  refine l_ist (ls' := [some (.ref 1000), some (.ref 0), some (.ref 159), some (.ref 182), some (.int (nI i)), some (.int (thr o)), none]) o_L_law_841 (Nat.le_of_ble_eq_true rfl) rfl ?_
  refine q_aload_n o_L_law_843 rfl ?_
  refine q_aload_n o_L_law_844 rfl ?_
  refine q_iload o_L_law_845 rfl ?_
  refine q_iconst (v := 1) o_L_law_847 (by decide) ?_
  refine q_iadd o_L_law_848 ?_
  refine q_sld (i := i + 1) o_L_law_849 (nI_add i 1) (by omega) hN ?_
  refine l_callVi _ (a := 159) (As := [.int (g_xs G (i + 1))]) (st := []) hs1 o_L_law_850 k_L_112 rfl rfl (Nat.le_of_ble_eq_true rfl) h (fun w σ2 hs2 h => ?_)
  obtain ⟨e4, e5, e6, hK⟩ := h
  refine l_ist (ls' := [some (.ref 1000), some (.ref 0), some (.ref 159), some (.ref 182), some (.int (nI i)), some (.int (thr o)), some (.int w)]) o_L_law_853 (Nat.le_of_ble_eq_true rfl) rfl ?_
  refine q_aload_n o_L_law_855 rfl ?_
  refine l_thrown hs2 o_L_law_856 ?_
  refine q_iload o_L_law_859 rfl ?_
  refine q_icmp_eq o_L_law_861 (fun _ => ?_) (fun c => absurd e5 c)
  refine q_iload o_L_law_866 rfl ?_
  refine q_if_ne o_L_law_868 (fun _ => ?_) (fun c => ?_)
  · refine q_goto o_L_law_883 ?_
    exact l_weak (k σ2 hs2 hK)
  refine q_aload_n o_L_law_871 rfl ?_
  refine q_iconst (v := 0) o_L_law_872 (by decide) ?_
  refine l_out hs2 o_L_law_873 ?_
  refine q_iload o_L_law_874 rfl ?_
  refine q_i2l o_L_law_876 ?_
  refine q_lcmp o_L_law_877 ?_
  refine q_if_eq o_L_law_878 (fun _ => ?_) (fun c2 => absurd (l_same c e3 e4 e6) c2)
  refine q_goto o_L_law_883 ?_
  exact l_weak (k σ2 hs2 hK)
theorem vl_18 {G : q_G} {d b sb i : Nat} {σ : q_S} {Q : Option Value → q_S → Prop} (K : q_S → Prop) (hi : i + 7 ≤ g_L G) (hN : g_L G < 2 ^ 31) (hs : q_Sh σ) (h : q_Call G d 0 0 X_W_mend [.ref 0, .int (g_xs G (i + 1))] σ (q_ri (fun v σ1 => q_Call G d 0 0 X_M_mend [.ref 159, .int (g_xs G (i + 1))] σ1 (q_ri (fun v' σ2 => v = v' ∧ K σ2))))) (k : ∀ σ2, q_Sh σ2 → K σ2 → q_At G X_L_law (d + 1) b sb 1413 [some (.ref 1000), some (.ref 0), some (.ref 159), some (.ref 182), some (.int (nI i)), none, none] [] σ2 Q) : q_At G X_L_law (d + 1) b sb 886 [some (.ref 1000), some (.ref 0), some (.ref 159), some (.ref 182), some (.int (nI i)), none, none] [] σ Q := by
  refine q_aload_n o_L_law_886 rfl ?_
  refine q_aload_n o_L_law_887 rfl ?_
  refine q_iload o_L_law_888 rfl ?_
  refine q_iconst (v := 1) o_L_law_890 (by decide) ?_
  refine q_iadd o_L_law_891 ?_
  refine q_sld (i := i + 1) o_L_law_892 (nI_add i 1) (by omega) hN ?_
  refine l_callVi _ (a := 0) (As := [.int (g_xs G (i + 1))]) (st := []) hs o_L_law_893 k_L_113 rfl rfl (Nat.le_of_ble_eq_true rfl) h (fun v σ1 hs1 h => ?_)
  refine q_aload_n o_L_law_896 rfl ?_
  refine q_aload_n o_L_law_897 rfl ?_
  refine q_iload o_L_law_898 rfl ?_
  refine q_iconst (v := 1) o_L_law_900 (by decide) ?_
  refine q_iadd o_L_law_901 ?_
  refine q_sld (i := i + 1) o_L_law_902 (nI_add i 1) (by omega) hN ?_
  refine l_callVi _ (a := 159) (As := [.int (g_xs G (i + 1))]) (st := [.int (v)]) hs1 o_L_law_903 k_L_116 rfl rfl (Nat.le_of_ble_eq_true rfl) h (fun v' σ2 hs2 h => ?_)
  refine q_icmp_eq o_L_law_906 (fun _ => k σ2 hs2 h.2) (fun c => absurd h.1 c)
theorem vl_19 {G : q_G} {d b sb i : Nat} {σ : q_S} {Q : Option Value → q_S → Prop} (K : q_S → Prop) (hi : i + 7 ≤ g_L G) (hN : g_L G < 2 ^ 31) (hs : q_Sh σ) (h : q_Call G d 0 0 X_W_please [.ref 0, .int (g_xs G (i + 1))] σ (q_ri (fun v σ1 => q_Call G d 0 0 X_M_please [.ref 159, .int (g_xs G (i + 1))] σ1 (q_ri (fun v' σ2 => v = v' ∧ K σ2))))) (k : ∀ σ2, q_Sh σ2 → K σ2 → q_At G X_L_law (d + 1) b sb 1413 [some (.ref 1000), some (.ref 0), some (.ref 159), some (.ref 182), some (.int (nI i)), none, none] [] σ2 Q) : q_At G X_L_law (d + 1) b sb 911 [some (.ref 1000), some (.ref 0), some (.ref 159), some (.ref 182), some (.int (nI i)), none, none] [] σ Q := by
  refine q_aload_n o_L_law_911 rfl ?_
  refine q_aload_n o_L_law_912 rfl ?_
  refine q_iload o_L_law_913 rfl ?_
  refine q_iconst (v := 1) o_L_law_915 (by decide) ?_
  refine q_iadd o_L_law_916 ?_
  refine q_sld (i := i + 1) o_L_law_917 (nI_add i 1) (by omega) hN ?_
  refine l_callVi _ (a := 0) (As := [.int (g_xs G (i + 1))]) (st := []) hs o_L_law_918 k_L_117 rfl rfl (Nat.le_of_ble_eq_true rfl) h (fun v σ1 hs1 h => ?_)
  refine q_aload_n o_L_law_921 rfl ?_
  refine q_aload_n o_L_law_922 rfl ?_
  refine q_iload o_L_law_923 rfl ?_
  refine q_iconst (v := 1) o_L_law_925 (by decide) ?_
  refine q_iadd o_L_law_926 ?_
  refine q_sld (i := i + 1) o_L_law_927 (nI_add i 1) (by omega) hN ?_
  refine l_callVi _ (a := 159) (As := [.int (g_xs G (i + 1))]) (st := [.int (v)]) hs1 o_L_law_928 k_L_120 rfl rfl (Nat.le_of_ble_eq_true rfl) h (fun v' σ2 hs2 h => ?_)
  refine q_icmp_eq o_L_law_931 (fun _ => k σ2 hs2 h.2) (fun c => absurd h.1 c)
theorem vl_20 {G : q_G} {d b sb i : Nat} {σ : q_S} {Q : Option Value → q_S → Prop} (K : q_S → Prop) (hi : i + 7 ≤ g_L G) (hN : g_L G < 2 ^ 31) (hs : q_Sh σ) (h : q_Call G d 0 0 X_W_quiet [.ref 0, .int (g_xs G (i + 1))] σ (q_ri (fun v σ1 => q_Call G d 0 0 X_M_quiet [.ref 159, .int (g_xs G (i + 1))] σ1 (q_ri (fun v' σ2 => v = v' ∧ K σ2))))) (k : ∀ σ2, q_Sh σ2 → K σ2 → q_At G X_L_law (d + 1) b sb 1413 [some (.ref 1000), some (.ref 0), some (.ref 159), some (.ref 182), some (.int (nI i)), none, none] [] σ2 Q) : q_At G X_L_law (d + 1) b sb 936 [some (.ref 1000), some (.ref 0), some (.ref 159), some (.ref 182), some (.int (nI i)), none, none] [] σ Q := by
  refine q_aload_n o_L_law_936 rfl ?_
  refine q_aload_n o_L_law_937 rfl ?_
  refine q_iload o_L_law_938 rfl ?_
  refine q_iconst (v := 1) o_L_law_940 (by decide) ?_
  refine q_iadd o_L_law_941 ?_
  refine q_sld (i := i + 1) o_L_law_942 (nI_add i 1) (by omega) hN ?_
  refine l_callVi _ (a := 0) (As := [.int (g_xs G (i + 1))]) (st := []) hs o_L_law_943 k_L_121 rfl rfl (Nat.le_of_ble_eq_true rfl) h (fun v σ1 hs1 h => ?_)
  refine q_aload_n o_L_law_946 rfl ?_
  refine q_aload_n o_L_law_947 rfl ?_
  refine q_iload o_L_law_948 rfl ?_
  refine q_iconst (v := 1) o_L_law_950 (by decide) ?_
  refine q_iadd o_L_law_951 ?_
  refine q_sld (i := i + 1) o_L_law_952 (nI_add i 1) (by omega) hN ?_
  refine l_callVi _ (a := 159) (As := [.int (g_xs G (i + 1))]) (st := [.int (v)]) hs1 o_L_law_953 k_L_124 rfl rfl (Nat.le_of_ble_eq_true rfl) h (fun v' σ2 hs2 h => ?_)
  refine q_icmp_eq o_L_law_956 (fun _ => k σ2 hs2 h.2) (fun c => absurd h.1 c)
theorem vl_21 {G : q_G} {d b sb i : Nat} {σ : q_S} {Q : Option Value → q_S → Prop} (K : q_S → Prop) (hi : i + 7 ≤ g_L G) (hN : g_L G < 2 ^ 31) (hs : q_Sh σ) (h : h_Call G d X_L_rests [(0, 12, 15, 13)] [.ref 0, .int (g_xs G (i + 1)), .int (g_xs G (i + 2)), .int (g_xs G (i + 3)), .ref 182] σ (fun r σ1 => ∃ o : Option Int32, r = some (.int (thr o)) ∧ q_Sh σ1 ∧ (∀ v, o = some v → q_L σ1 182 0 = v.toInt64) ∧ q_Call G d 0 0 X_M_rests [.ref 159, .int (g_xs G (i + 1)), .int (g_xs G (i + 2)), .int (g_xs G (i + 3))] σ1 (q_ri (fun w σ2 => w = o.getD 0 ∧ q_I σ2 159 0 = thr o ∧ q_L σ2 182 0 = q_L σ1 182 0 ∧ K σ2)))) (k : ∀ σ2, q_Sh σ2 → K σ2 → q_At G X_L_law (d + 1) b sb 1413 [some (.ref 1000), some (.ref 0), some (.ref 159), some (.ref 182), some (.int (nI i)), none, none] [] σ2 Q) : q_At G X_L_law (d + 1) (1 + b) (6 + sb) 961 [some (.ref 1000), some (.ref 0), some (.ref 159), some (.ref 182), some (.int (nI i)), none, none] [] σ Q := by
  refine q_aload_n o_L_law_961 rfl ?_
  refine q_aload_n o_L_law_962 rfl ?_
  refine q_iload o_L_law_963 rfl ?_
  refine q_iconst (v := 1) o_L_law_965 (by decide) ?_
  refine q_iadd o_L_law_966 ?_
  refine q_sld (i := i + 1) o_L_law_967 (nI_add i 1) (by omega) hN ?_
  refine q_aload_n o_L_law_968 rfl ?_
  refine q_iload o_L_law_969 rfl ?_
  refine q_iconst (v := 2) o_L_law_971 (by decide) ?_
  refine q_iadd o_L_law_972 ?_
  refine q_sld (i := i + 2) o_L_law_973 (nI_add i 2) (by omega) hN ?_
  refine q_aload_n o_L_law_974 rfl ?_
  refine q_iload o_L_law_975 rfl ?_
  refine q_iconst (v := 3) o_L_law_977 (by decide) ?_
  refine q_iadd o_L_law_978 ?_
  refine q_sld (i := i + 3) o_L_law_979 (nI_add i 3) (by omega) hN ?_
  refine q_aload_n o_L_law_980 rfl ?_
  refine q_callH (b := b) (sb := sb) (As := [.ref 0, .int (g_xs G (i + 1)), .int (g_xs G (i + 2)), .int (g_xs G (i + 3)), .ref 182]) (st := []) o_L_law_981 kh_rests rfl (Nat.le_of_ble_eq_true rfl) h (fun r σ1 hr => ?_)
  obtain ⟨o, rfl, hs1, e3, h⟩ := hr
  refine ⟨q_no_i, q_nNT hs1, ?_⟩
  refine l_ist (ls' := [some (.ref 1000), some (.ref 0), some (.ref 159), some (.ref 182), some (.int (nI i)), some (.int (thr o)), none]) o_L_law_984 (Nat.le_of_ble_eq_true rfl) rfl ?_
  refine q_aload_n o_L_law_986 rfl ?_
  refine q_aload_n o_L_law_987 rfl ?_
  refine q_iload o_L_law_988 rfl ?_
  refine q_iconst (v := 1) o_L_law_990 (by decide) ?_
  refine q_iadd o_L_law_991 ?_
  refine q_sld (i := i + 1) o_L_law_992 (nI_add i 1) (by omega) hN ?_
  refine q_aload_n o_L_law_993 rfl ?_
  refine q_iload o_L_law_994 rfl ?_
  refine q_iconst (v := 2) o_L_law_996 (by decide) ?_
  refine q_iadd o_L_law_997 ?_
  refine q_sld (i := i + 2) o_L_law_998 (nI_add i 2) (by omega) hN ?_
  refine q_aload_n o_L_law_999 rfl ?_
  refine q_iload o_L_law_1000 rfl ?_
  refine q_iconst (v := 3) o_L_law_1002 (by decide) ?_
  refine q_iadd o_L_law_1003 ?_
  refine q_sld (i := i + 3) o_L_law_1004 (nI_add i 3) (by omega) hN ?_
  refine l_callVi _ (a := 159) (As := [.int (g_xs G (i + 1)), .int (g_xs G (i + 2)), .int (g_xs G (i + 3))]) (st := []) hs1 o_L_law_1005 k_L_128 rfl rfl (Nat.le_of_ble_eq_true rfl) h (fun w σ2 hs2 h => ?_)
  obtain ⟨e4, e5, e6, hK⟩ := h
  refine l_ist (ls' := [some (.ref 1000), some (.ref 0), some (.ref 159), some (.ref 182), some (.int (nI i)), some (.int (thr o)), some (.int w)]) o_L_law_1008 (Nat.le_of_ble_eq_true rfl) rfl ?_
  refine q_aload_n o_L_law_1010 rfl ?_
  refine l_thrown hs2 o_L_law_1011 ?_
  refine q_iload o_L_law_1014 rfl ?_
  refine q_icmp_eq o_L_law_1016 (fun _ => ?_) (fun c => absurd e5 c)
  refine q_iload o_L_law_1021 rfl ?_
  refine q_if_ne o_L_law_1023 (fun _ => ?_) (fun c => ?_)
  · refine q_goto o_L_law_1038 ?_
    exact l_weak (k σ2 hs2 hK)
  refine q_aload_n o_L_law_1026 rfl ?_
  refine q_iconst (v := 0) o_L_law_1027 (by decide) ?_
  refine l_out hs2 o_L_law_1028 ?_
  refine q_iload o_L_law_1029 rfl ?_
  refine q_i2l o_L_law_1031 ?_
  refine q_lcmp o_L_law_1032 ?_
  refine q_if_eq o_L_law_1033 (fun _ => ?_) (fun c2 => absurd (l_same c e3 e4 e6) c2)
  refine q_goto o_L_law_1038 ?_
  exact l_weak (k σ2 hs2 hK)
theorem vl_22 {G : q_G} {d b sb i : Nat} {σ : q_S} {Q : Option Value → q_S → Prop} (K : q_S → Prop) (hi : i + 7 ≤ g_L G) (hN : g_L G < 2 ^ 31) (hs : q_Sh σ) (h : q_Call G d 0 0 X_W_tale [.ref 0, .int (g_xs G (i + 1)), .int (g_xs G (i + 2)), .int (if g_xs G (i + 3) = 0 then (0 : Int32) else 1)] σ (q_ri (fun v σ1 => q_Call G d 0 0 X_M_tale [.ref 159, .int (g_xs G (i + 1)), .int (g_xs G (i + 2)), .int (if g_xs G (i + 3) = 0 then (0 : Int32) else 1)] σ1 (q_ri (fun v' σ2 => v = v' ∧ K σ2))))) (k : ∀ σ2, q_Sh σ2 → K σ2 → q_At G X_L_law (d + 1) b sb 1413 [some (.ref 1000), some (.ref 0), some (.ref 159), some (.ref 182), some (.int (nI i)), none, none] [] σ2 Q) : q_At G X_L_law (d + 1) b sb 1041 [some (.ref 1000), some (.ref 0), some (.ref 159), some (.ref 182), some (.int (nI i)), none, none] [] σ Q := by
  refine q_aload_n o_L_law_1041 rfl ?_
  refine q_aload_n o_L_law_1042 rfl ?_
  refine q_iload o_L_law_1043 rfl ?_
  refine q_iconst (v := 1) o_L_law_1045 (by decide) ?_
  refine q_iadd o_L_law_1046 ?_
  refine q_sld (i := i + 1) o_L_law_1047 (nI_add i 1) (by omega) hN ?_
  refine q_aload_n o_L_law_1048 rfl ?_
  refine q_iload o_L_law_1049 rfl ?_
  refine q_iconst (v := 2) o_L_law_1051 (by decide) ?_
  refine q_iadd o_L_law_1052 ?_
  refine q_sld (i := i + 2) o_L_law_1053 (nI_add i 2) (by omega) hN ?_
  refine q_aload_n o_L_law_1054 rfl ?_
  refine q_iload o_L_law_1055 rfl ?_
  refine q_iconst (v := 3) o_L_law_1057 (by decide) ?_
  refine q_iadd o_L_law_1058 ?_
  refine q_sld (i := i + 3) o_L_law_1059 (nI_add i 3) (by omega) hN ?_
  refine l_bool o_L_law_1060 o_L_law_1063 o_L_law_1064 o_L_law_1067 ?_
  refine l_callVi _ (a := 0) (As := [.int (g_xs G (i + 1)), .int (g_xs G (i + 2)), .int (if g_xs G (i + 3) = 0 then (0 : Int32) else 1)]) (st := []) hs o_L_law_1068 k_L_129 rfl rfl (Nat.le_of_ble_eq_true rfl) h (fun v σ1 hs1 h => ?_)
  refine q_aload_n o_L_law_1071 rfl ?_
  refine q_aload_n o_L_law_1072 rfl ?_
  refine q_iload o_L_law_1073 rfl ?_
  refine q_iconst (v := 1) o_L_law_1075 (by decide) ?_
  refine q_iadd o_L_law_1076 ?_
  refine q_sld (i := i + 1) o_L_law_1077 (nI_add i 1) (by omega) hN ?_
  refine q_aload_n o_L_law_1078 rfl ?_
  refine q_iload o_L_law_1079 rfl ?_
  refine q_iconst (v := 2) o_L_law_1081 (by decide) ?_
  refine q_iadd o_L_law_1082 ?_
  refine q_sld (i := i + 2) o_L_law_1083 (nI_add i 2) (by omega) hN ?_
  refine q_aload_n o_L_law_1084 rfl ?_
  refine q_iload o_L_law_1085 rfl ?_
  refine q_iconst (v := 3) o_L_law_1087 (by decide) ?_
  refine q_iadd o_L_law_1088 ?_
  refine q_sld (i := i + 3) o_L_law_1089 (nI_add i 3) (by omega) hN ?_
  refine l_bool o_L_law_1090 o_L_law_1093 o_L_law_1094 o_L_law_1097 ?_
  refine l_callVi _ (a := 159) (As := [.int (g_xs G (i + 1)), .int (g_xs G (i + 2)), .int (if g_xs G (i + 3) = 0 then (0 : Int32) else 1)]) (st := [.int (v)]) hs1 o_L_law_1098 k_L_133 rfl rfl (Nat.le_of_ble_eq_true rfl) h (fun v' σ2 hs2 h => ?_)
  refine q_icmp_eq o_L_law_1101 (fun _ => k σ2 hs2 h.2) (fun c => absurd h.1 c)
theorem vl_23 {G : q_G} {d b sb i : Nat} {σ : q_S} {Q : Option Value → q_S → Prop} (K : q_S → Prop) (hi : i + 7 ≤ g_L G) (hN : g_L G < 2 ^ 31) (hs : q_Sh σ) (h : q_Call G d 0 0 X_W_how [.ref 0] σ (q_ri (fun v σ1 => q_Call G d 0 0 X_M_how [.ref 159] σ1 (q_ri (fun v' σ2 => v = v' ∧ K σ2))))) (k : ∀ σ2, q_Sh σ2 → K σ2 → q_At G X_L_law (d + 1) b sb 1413 [some (.ref 1000), some (.ref 0), some (.ref 159), some (.ref 182), some (.int (nI i)), none, none] [] σ2 Q) : q_At G X_L_law (d + 1) b sb 1106 [some (.ref 1000), some (.ref 0), some (.ref 159), some (.ref 182), some (.int (nI i)), none, none] [] σ Q := by
  refine q_aload_n o_L_law_1106 rfl ?_
  refine l_callVi _ (a := 0) (As := []) (st := []) hs o_L_law_1107 k_L_134 rfl rfl (Nat.le_of_ble_eq_true rfl) h (fun v σ1 hs1 h => ?_)
  refine q_aload_n o_L_law_1110 rfl ?_
  refine l_callVi _ (a := 159) (As := []) (st := [.int (v)]) hs1 o_L_law_1111 k_L_137 rfl rfl (Nat.le_of_ble_eq_true rfl) h (fun v' σ2 hs2 h => ?_)
  refine q_icmp_eq o_L_law_1114 (fun _ => k σ2 hs2 h.2) (fun c => absurd h.1 c)
theorem vl_24 {G : q_G} {d b sb i : Nat} {σ : q_S} {Q : Option Value → q_S → Prop} (K : q_S → Prop) (hi : i + 7 ≤ g_L G) (hN : g_L G < 2 ^ 31) (hs : q_Sh σ) (h : q_Call G d 0 0 X_W_were [.ref 0, .int (g_xs G (i + 1)), .int (g_xs G (i + 2))] σ (q_ri (fun v σ1 => q_Call G d 0 0 X_M_were [.ref 159, .int (g_xs G (i + 1)), .int (g_xs G (i + 2))] σ1 (q_ri (fun v' σ2 => v = v' ∧ K σ2))))) (k : ∀ σ2, q_Sh σ2 → K σ2 → q_At G X_L_law (d + 1) b sb 1413 [some (.ref 1000), some (.ref 0), some (.ref 159), some (.ref 182), some (.int (nI i)), none, none] [] σ2 Q) : q_At G X_L_law (d + 1) b sb 1119 [some (.ref 1000), some (.ref 0), some (.ref 159), some (.ref 182), some (.int (nI i)), none, none] [] σ Q := by
  refine q_aload_n o_L_law_1119 rfl ?_
  refine q_aload_n o_L_law_1120 rfl ?_
  refine q_iload o_L_law_1121 rfl ?_
  refine q_iconst (v := 1) o_L_law_1123 (by decide) ?_
  refine q_iadd o_L_law_1124 ?_
  refine q_sld (i := i + 1) o_L_law_1125 (nI_add i 1) (by omega) hN ?_
  refine q_aload_n o_L_law_1126 rfl ?_
  refine q_iload o_L_law_1127 rfl ?_
  refine q_iconst (v := 2) o_L_law_1129 (by decide) ?_
  refine q_iadd o_L_law_1130 ?_
  refine q_sld (i := i + 2) o_L_law_1131 (nI_add i 2) (by omega) hN ?_
  refine l_callVi _ (a := 0) (As := [.int (g_xs G (i + 1)), .int (g_xs G (i + 2))]) (st := []) hs o_L_law_1132 k_L_138 rfl rfl (Nat.le_of_ble_eq_true rfl) h (fun v σ1 hs1 h => ?_)
  refine q_aload_n o_L_law_1135 rfl ?_
  refine q_aload_n o_L_law_1136 rfl ?_
  refine q_iload o_L_law_1137 rfl ?_
  refine q_iconst (v := 1) o_L_law_1139 (by decide) ?_
  refine q_iadd o_L_law_1140 ?_
  refine q_sld (i := i + 1) o_L_law_1141 (nI_add i 1) (by omega) hN ?_
  refine q_aload_n o_L_law_1142 rfl ?_
  refine q_iload o_L_law_1143 rfl ?_
  refine q_iconst (v := 2) o_L_law_1145 (by decide) ?_
  refine q_iadd o_L_law_1146 ?_
  refine q_sld (i := i + 2) o_L_law_1147 (nI_add i 2) (by omega) hN ?_
  refine l_callVi _ (a := 159) (As := [.int (g_xs G (i + 1)), .int (g_xs G (i + 2))]) (st := [.int (v)]) hs1 o_L_law_1148 k_L_141 rfl rfl (Nat.le_of_ble_eq_true rfl) h (fun v' σ2 hs2 h => ?_)
  refine q_icmp_eq o_L_law_1151 (fun _ => k σ2 hs2 h.2) (fun c => absurd h.1 c)
theorem vl_25 {G : q_G} {d b sb i : Nat} {σ : q_S} {Q : Option Value → q_S → Prop} (K : q_S → Prop) (hi : i + 7 ≤ g_L G) (hN : g_L G < 2 ^ 31) (hs : q_Sh σ) (h : q_Call G d 0 0 X_W_ask [.ref 0] σ (q_ri (fun v σ1 => q_Call G d 0 0 X_M_ask [.ref 159] σ1 (q_ri (fun v' σ2 => v = v' ∧ K σ2))))) (k : ∀ σ2, q_Sh σ2 → K σ2 → q_At G X_L_law (d + 1) b sb 1413 [some (.ref 1000), some (.ref 0), some (.ref 159), some (.ref 182), some (.int (nI i)), none, none] [] σ2 Q) : q_At G X_L_law (d + 1) b sb 1156 [some (.ref 1000), some (.ref 0), some (.ref 159), some (.ref 182), some (.int (nI i)), none, none] [] σ Q := by
  refine q_aload_n o_L_law_1156 rfl ?_
  refine l_callVi _ (a := 0) (As := []) (st := []) hs o_L_law_1157 k_L_142 rfl rfl (Nat.le_of_ble_eq_true rfl) h (fun v σ1 hs1 h => ?_)
  refine q_aload_n o_L_law_1160 rfl ?_
  refine l_callVi _ (a := 159) (As := []) (st := [.int (v)]) hs1 o_L_law_1161 k_L_145 rfl rfl (Nat.le_of_ble_eq_true rfl) h (fun v' σ2 hs2 h => ?_)
  refine q_icmp_eq o_L_law_1164 (fun _ => k σ2 hs2 h.2) (fun c => absurd h.1 c)
theorem vl_26 {G : q_G} {d b sb i : Nat} {σ : q_S} {Q : Option Value → q_S → Prop} (K : q_S → Prop) (hi : i + 7 ≤ g_L G) (hN : g_L G < 2 ^ 31) (hs : q_Sh σ) (h : h_Call G d X_L_gains [(0, 9, 12, 13)] [.ref 0, .int (g_xs G (i + 1)), .ref 182] σ (fun r σ1 => ∃ o : Option Int32, r = some (.int (thr o)) ∧ q_Sh σ1 ∧ (∀ v, o = some v → q_L σ1 182 0 = v.toInt64) ∧ q_Call G d 0 0 X_M_gains [.ref 159, .int (g_xs G (i + 1))] σ1 (q_ri (fun w σ2 => w = o.getD 0 ∧ q_I σ2 159 0 = thr o ∧ q_L σ2 182 0 = q_L σ1 182 0 ∧ K σ2)))) (k : ∀ σ2, q_Sh σ2 → K σ2 → q_At G X_L_law (d + 1) b sb 1413 [some (.ref 1000), some (.ref 0), some (.ref 159), some (.ref 182), some (.int (nI i)), none, none] [] σ2 Q) : q_At G X_L_law (d + 1) (1 + b) (6 + sb) 1169 [some (.ref 1000), some (.ref 0), some (.ref 159), some (.ref 182), some (.int (nI i)), none, none] [] σ Q := by
  refine q_aload_n o_L_law_1169 rfl ?_
  refine q_aload_n o_L_law_1170 rfl ?_
  refine q_iload o_L_law_1171 rfl ?_
  refine q_iconst (v := 1) o_L_law_1173 (by decide) ?_
  refine q_iadd o_L_law_1174 ?_
  refine q_sld (i := i + 1) o_L_law_1175 (nI_add i 1) (by omega) hN ?_
  refine q_aload_n o_L_law_1176 rfl ?_
  refine q_callH (b := b) (sb := sb) (As := [.ref 0, .int (g_xs G (i + 1)), .ref 182]) (st := []) o_L_law_1177 kh_gains rfl (Nat.le_of_ble_eq_true rfl) h (fun r σ1 hr => ?_)
  obtain ⟨o, rfl, hs1, e3, h⟩ := hr
  refine ⟨q_no_i, q_nNT hs1, ?_⟩
  refine l_ist (ls' := [some (.ref 1000), some (.ref 0), some (.ref 159), some (.ref 182), some (.int (nI i)), some (.int (thr o)), none]) o_L_law_1180 (Nat.le_of_ble_eq_true rfl) rfl ?_
  refine q_aload_n o_L_law_1182 rfl ?_
  refine q_aload_n o_L_law_1183 rfl ?_
  refine q_iload o_L_law_1184 rfl ?_
  refine q_iconst (v := 1) o_L_law_1186 (by decide) ?_
  refine q_iadd o_L_law_1187 ?_
  refine q_sld (i := i + 1) o_L_law_1188 (nI_add i 1) (by omega) hN ?_
  refine l_callVi _ (a := 159) (As := [.int (g_xs G (i + 1))]) (st := []) hs1 o_L_law_1189 k_L_148 rfl rfl (Nat.le_of_ble_eq_true rfl) h (fun w σ2 hs2 h => ?_)
  obtain ⟨e4, e5, e6, hK⟩ := h
  refine l_ist (ls' := [some (.ref 1000), some (.ref 0), some (.ref 159), some (.ref 182), some (.int (nI i)), some (.int (thr o)), some (.int w)]) o_L_law_1192 (Nat.le_of_ble_eq_true rfl) rfl ?_
  refine q_aload_n o_L_law_1194 rfl ?_
  refine l_thrown hs2 o_L_law_1195 ?_
  refine q_iload o_L_law_1198 rfl ?_
  refine q_icmp_eq o_L_law_1200 (fun _ => ?_) (fun c => absurd e5 c)
  refine q_iload o_L_law_1205 rfl ?_
  refine q_if_ne o_L_law_1207 (fun _ => ?_) (fun c => ?_)
  · refine q_goto o_L_law_1222 ?_
    exact l_weak (k σ2 hs2 hK)
  refine q_aload_n o_L_law_1210 rfl ?_
  refine q_iconst (v := 0) o_L_law_1211 (by decide) ?_
  refine l_out hs2 o_L_law_1212 ?_
  refine q_iload o_L_law_1213 rfl ?_
  refine q_i2l o_L_law_1215 ?_
  refine q_lcmp o_L_law_1216 ?_
  refine q_if_eq o_L_law_1217 (fun _ => ?_) (fun c2 => absurd (l_same c e3 e4 e6) c2)
  refine q_goto o_L_law_1222 ?_
  exact l_weak (k σ2 hs2 hK)
theorem vl_27 {G : q_G} {d b sb i : Nat} {σ : q_S} {Q : Option Value → q_S → Prop} (K : q_S → Prop) (hi : i + 7 ≤ g_L G) (hN : g_L G < 2 ^ 31) (hs : q_Sh σ) (h : q_Call G d 0 0 X_W_tampered [.ref 0, .int (g_xs G (i + 1)), .int (g_xs G (i + 2)), .int (g_xs G (i + 3)), .int (g_xs G (i + 4))] σ (q_ri (fun v σ1 => q_Call G d 0 0 X_M_tampered [.ref 159, .int (g_xs G (i + 1)), .int (g_xs G (i + 2)), .int (g_xs G (i + 3)), .int (g_xs G (i + 4))] σ1 (q_ri (fun v' σ2 => v = v' ∧ K σ2))))) (k : ∀ σ2, q_Sh σ2 → K σ2 → q_At G X_L_law (d + 1) b sb 1413 [some (.ref 1000), some (.ref 0), some (.ref 159), some (.ref 182), some (.int (nI i)), none, none] [] σ2 Q) : q_At G X_L_law (d + 1) b sb 1225 [some (.ref 1000), some (.ref 0), some (.ref 159), some (.ref 182), some (.int (nI i)), none, none] [] σ Q := by
  refine q_aload_n o_L_law_1225 rfl ?_
  refine q_aload_n o_L_law_1226 rfl ?_
  refine q_iload o_L_law_1227 rfl ?_
  refine q_iconst (v := 1) o_L_law_1229 (by decide) ?_
  refine q_iadd o_L_law_1230 ?_
  refine q_sld (i := i + 1) o_L_law_1231 (nI_add i 1) (by omega) hN ?_
  refine q_aload_n o_L_law_1232 rfl ?_
  refine q_iload o_L_law_1233 rfl ?_
  refine q_iconst (v := 2) o_L_law_1235 (by decide) ?_
  refine q_iadd o_L_law_1236 ?_
  refine q_sld (i := i + 2) o_L_law_1237 (nI_add i 2) (by omega) hN ?_
  refine q_aload_n o_L_law_1238 rfl ?_
  refine q_iload o_L_law_1239 rfl ?_
  refine q_iconst (v := 3) o_L_law_1241 (by decide) ?_
  refine q_iadd o_L_law_1242 ?_
  refine q_sld (i := i + 3) o_L_law_1243 (nI_add i 3) (by omega) hN ?_
  refine q_aload_n o_L_law_1244 rfl ?_
  refine q_iload o_L_law_1245 rfl ?_
  refine q_iconst (v := 4) o_L_law_1247 (by decide) ?_
  refine q_iadd o_L_law_1248 ?_
  refine q_sld (i := i + 4) o_L_law_1249 (nI_add i 4) (by omega) hN ?_
  refine l_callVi _ (a := 0) (As := [.int (g_xs G (i + 1)), .int (g_xs G (i + 2)), .int (g_xs G (i + 3)), .int (g_xs G (i + 4))]) (st := []) hs o_L_law_1250 k_L_149 rfl rfl (Nat.le_of_ble_eq_true rfl) h (fun v σ1 hs1 h => ?_)
  refine q_aload_n o_L_law_1253 rfl ?_
  refine q_aload_n o_L_law_1254 rfl ?_
  refine q_iload o_L_law_1255 rfl ?_
  refine q_iconst (v := 1) o_L_law_1257 (by decide) ?_
  refine q_iadd o_L_law_1258 ?_
  refine q_sld (i := i + 1) o_L_law_1259 (nI_add i 1) (by omega) hN ?_
  refine q_aload_n o_L_law_1260 rfl ?_
  refine q_iload o_L_law_1261 rfl ?_
  refine q_iconst (v := 2) o_L_law_1263 (by decide) ?_
  refine q_iadd o_L_law_1264 ?_
  refine q_sld (i := i + 2) o_L_law_1265 (nI_add i 2) (by omega) hN ?_
  refine q_aload_n o_L_law_1266 rfl ?_
  refine q_iload o_L_law_1267 rfl ?_
  refine q_iconst (v := 3) o_L_law_1269 (by decide) ?_
  refine q_iadd o_L_law_1270 ?_
  refine q_sld (i := i + 3) o_L_law_1271 (nI_add i 3) (by omega) hN ?_
  refine q_aload_n o_L_law_1272 rfl ?_
  refine q_iload o_L_law_1273 rfl ?_
  refine q_iconst (v := 4) o_L_law_1275 (by decide) ?_
  refine q_iadd o_L_law_1276 ?_
  refine q_sld (i := i + 4) o_L_law_1277 (nI_add i 4) (by omega) hN ?_
  refine l_callVi _ (a := 159) (As := [.int (g_xs G (i + 1)), .int (g_xs G (i + 2)), .int (g_xs G (i + 3)), .int (g_xs G (i + 4))]) (st := [.int (v)]) hs1 o_L_law_1278 k_L_153 rfl rfl (Nat.le_of_ble_eq_true rfl) h (fun v' σ2 hs2 h => ?_)
  refine q_icmp_eq o_L_law_1281 (fun _ => k σ2 hs2 h.2) (fun c => absurd h.1 c)
theorem vl_28 {G : q_G} {d b sb i : Nat} {σ : q_S} {Q : Option Value → q_S → Prop} (K : q_S → Prop) (hi : i + 7 ≤ g_L G) (hN : g_L G < 2 ^ 31) (hs : q_Sh σ) (h : q_Call G d 0 0 X_W_centuries [.ref 0, .int (g_xs G (i + 1)), .int (g_xs G (i + 2)), .int (g_xs G (i + 3))] σ (q_ri (fun v σ1 => q_Call G d 0 0 X_M_centuries [.ref 159, .int (g_xs G (i + 1)), .int (g_xs G (i + 2)), .int (g_xs G (i + 3))] σ1 (q_ri (fun v' σ2 => v = v' ∧ K σ2))))) (k : ∀ σ2, q_Sh σ2 → K σ2 → q_At G X_L_law (d + 1) b sb 1413 [some (.ref 1000), some (.ref 0), some (.ref 159), some (.ref 182), some (.int (nI i)), none, none] [] σ2 Q) : q_At G X_L_law (d + 1) b sb 1286 [some (.ref 1000), some (.ref 0), some (.ref 159), some (.ref 182), some (.int (nI i)), none, none] [] σ Q := by
  refine q_aload_n o_L_law_1286 rfl ?_
  refine q_aload_n o_L_law_1287 rfl ?_
  refine q_iload o_L_law_1288 rfl ?_
  refine q_iconst (v := 1) o_L_law_1290 (by decide) ?_
  refine q_iadd o_L_law_1291 ?_
  refine q_sld (i := i + 1) o_L_law_1292 (nI_add i 1) (by omega) hN ?_
  refine q_aload_n o_L_law_1293 rfl ?_
  refine q_iload o_L_law_1294 rfl ?_
  refine q_iconst (v := 2) o_L_law_1296 (by decide) ?_
  refine q_iadd o_L_law_1297 ?_
  refine q_sld (i := i + 2) o_L_law_1298 (nI_add i 2) (by omega) hN ?_
  refine q_aload_n o_L_law_1299 rfl ?_
  refine q_iload o_L_law_1300 rfl ?_
  refine q_iconst (v := 3) o_L_law_1302 (by decide) ?_
  refine q_iadd o_L_law_1303 ?_
  refine q_sld (i := i + 3) o_L_law_1304 (nI_add i 3) (by omega) hN ?_
  refine l_callVi _ (a := 0) (As := [.int (g_xs G (i + 1)), .int (g_xs G (i + 2)), .int (g_xs G (i + 3))]) (st := []) hs o_L_law_1305 k_L_154 rfl rfl (Nat.le_of_ble_eq_true rfl) h (fun v σ1 hs1 h => ?_)
  refine q_aload_n o_L_law_1308 rfl ?_
  refine q_aload_n o_L_law_1309 rfl ?_
  refine q_iload o_L_law_1310 rfl ?_
  refine q_iconst (v := 1) o_L_law_1312 (by decide) ?_
  refine q_iadd o_L_law_1313 ?_
  refine q_sld (i := i + 1) o_L_law_1314 (nI_add i 1) (by omega) hN ?_
  refine q_aload_n o_L_law_1315 rfl ?_
  refine q_iload o_L_law_1316 rfl ?_
  refine q_iconst (v := 2) o_L_law_1318 (by decide) ?_
  refine q_iadd o_L_law_1319 ?_
  refine q_sld (i := i + 2) o_L_law_1320 (nI_add i 2) (by omega) hN ?_
  refine q_aload_n o_L_law_1321 rfl ?_
  refine q_iload o_L_law_1322 rfl ?_
  refine q_iconst (v := 3) o_L_law_1324 (by decide) ?_
  refine q_iadd o_L_law_1325 ?_
  refine q_sld (i := i + 3) o_L_law_1326 (nI_add i 3) (by omega) hN ?_
  refine l_callVi _ (a := 159) (As := [.int (g_xs G (i + 1)), .int (g_xs G (i + 2)), .int (g_xs G (i + 3))]) (st := [.int (v)]) hs1 o_L_law_1327 k_L_157 rfl rfl (Nat.le_of_ble_eq_true rfl) h (fun v' σ2 hs2 h => ?_)
  refine q_icmp_eq o_L_law_1330 (fun _ => k σ2 hs2 h.2) (fun c => absurd h.1 c)
theorem vl_29 {G : q_G} {d b sb i : Nat} {σ : q_S} {Q : Option Value → q_S → Prop} (K : q_S → Prop) (hi : i + 7 ≤ g_L G) (hN : g_L G < 2 ^ 31) (hs : q_Sh σ) (h : q_Call G d 0 0 X_W_mark [.ref 0, .int (g_xs G (i + 1)), .int (if g_xs G (i + 2) = 0 then (0 : Int32) else 1)] σ (q_ri (fun v σ1 => q_Call G d 0 0 X_M_mark [.ref 159, .int (g_xs G (i + 1)), .int (if g_xs G (i + 2) = 0 then (0 : Int32) else 1)] σ1 (q_ri (fun v' σ2 => v = v' ∧ K σ2))))) (k : ∀ σ2, q_Sh σ2 → K σ2 → q_At G X_L_law (d + 1) b sb 1413 [some (.ref 1000), some (.ref 0), some (.ref 159), some (.ref 182), some (.int (nI i)), none, none] [] σ2 Q) : q_At G X_L_law (d + 1) b sb 1335 [some (.ref 1000), some (.ref 0), some (.ref 159), some (.ref 182), some (.int (nI i)), none, none] [] σ Q := by
  refine q_aload_n o_L_law_1335 rfl ?_
  refine q_aload_n o_L_law_1336 rfl ?_
  refine q_iload o_L_law_1337 rfl ?_
  refine q_iconst (v := 1) o_L_law_1339 (by decide) ?_
  refine q_iadd o_L_law_1340 ?_
  refine q_sld (i := i + 1) o_L_law_1341 (nI_add i 1) (by omega) hN ?_
  refine q_aload_n o_L_law_1342 rfl ?_
  refine q_iload o_L_law_1343 rfl ?_
  refine q_iconst (v := 2) o_L_law_1345 (by decide) ?_
  refine q_iadd o_L_law_1346 ?_
  refine q_sld (i := i + 2) o_L_law_1347 (nI_add i 2) (by omega) hN ?_
  refine l_bool o_L_law_1348 o_L_law_1351 o_L_law_1352 o_L_law_1355 ?_
  refine l_callVi _ (a := 0) (As := [.int (g_xs G (i + 1)), .int (if g_xs G (i + 2) = 0 then (0 : Int32) else 1)]) (st := []) hs o_L_law_1356 k_L_158 rfl rfl (Nat.le_of_ble_eq_true rfl) h (fun v σ1 hs1 h => ?_)
  refine q_aload_n o_L_law_1359 rfl ?_
  refine q_aload_n o_L_law_1360 rfl ?_
  refine q_iload o_L_law_1361 rfl ?_
  refine q_iconst (v := 1) o_L_law_1363 (by decide) ?_
  refine q_iadd o_L_law_1364 ?_
  refine q_sld (i := i + 1) o_L_law_1365 (nI_add i 1) (by omega) hN ?_
  refine q_aload_n o_L_law_1366 rfl ?_
  refine q_iload o_L_law_1367 rfl ?_
  refine q_iconst (v := 2) o_L_law_1369 (by decide) ?_
  refine q_iadd o_L_law_1370 ?_
  refine q_sld (i := i + 2) o_L_law_1371 (nI_add i 2) (by omega) hN ?_
  refine l_bool o_L_law_1372 o_L_law_1375 o_L_law_1376 o_L_law_1379 ?_
  refine l_callVi _ (a := 159) (As := [.int (g_xs G (i + 1)), .int (if g_xs G (i + 2) = 0 then (0 : Int32) else 1)]) (st := [.int (v)]) hs1 o_L_law_1380 k_L_162 rfl rfl (Nat.le_of_ble_eq_true rfl) h (fun v' σ2 hs2 h => ?_)
  refine q_icmp_eq o_L_law_1383 (fun _ => k σ2 hs2 h.2) (fun c => absurd h.1 c)
theorem vl_30 {G : q_G} {d b sb i : Nat} {σ : q_S} {Q : Option Value → q_S → Prop} (K : q_S → Prop) (hi : i + 7 ≤ g_L G) (hN : g_L G < 2 ^ 31) (hs : q_Sh σ) (h : q_Call G d 0 0 X_W_count [.ref 0, .int (g_xs G (i + 1))] σ (q_ri (fun v σ1 => q_Call G d 0 0 X_M_count [.ref 159, .int (g_xs G (i + 1))] σ1 (q_ri (fun v' σ2 => v = v' ∧ K σ2))))) (k : ∀ σ2, q_Sh σ2 → K σ2 → q_At G X_L_law (d + 1) b sb 1413 [some (.ref 1000), some (.ref 0), some (.ref 159), some (.ref 182), some (.int (nI i)), none, none] [] σ2 Q) : q_At G X_L_law (d + 1) b sb 1388 [some (.ref 1000), some (.ref 0), some (.ref 159), some (.ref 182), some (.int (nI i)), none, none] [] σ Q := by
  refine q_aload_n o_L_law_1388 rfl ?_
  refine q_aload_n o_L_law_1389 rfl ?_
  refine q_iload o_L_law_1390 rfl ?_
  refine q_iconst (v := 1) o_L_law_1392 (by decide) ?_
  refine q_iadd o_L_law_1393 ?_
  refine q_sld (i := i + 1) o_L_law_1394 (nI_add i 1) (by omega) hN ?_
  refine l_callVi _ (a := 0) (As := [.int (g_xs G (i + 1))]) (st := []) hs o_L_law_1395 k_L_163 rfl rfl (Nat.le_of_ble_eq_true rfl) h (fun v σ1 hs1 h => ?_)
  refine q_aload_n o_L_law_1398 rfl ?_
  refine q_aload_n o_L_law_1399 rfl ?_
  refine q_iload o_L_law_1400 rfl ?_
  refine q_iconst (v := 1) o_L_law_1402 (by decide) ?_
  refine q_iadd o_L_law_1403 ?_
  refine q_sld (i := i + 1) o_L_law_1404 (nI_add i 1) (by omega) hN ?_
  refine l_callVi _ (a := 159) (As := [.int (g_xs G (i + 1))]) (st := [.int (v)]) hs1 o_L_law_1405 k_L_166 rfl rfl (Nat.le_of_ble_eq_true rfl) h (fun v' σ2 hs2 h => ?_)
  refine q_icmp_eq o_L_law_1408 (fun _ => k σ2 hs2 h.2) (fun c => absurd h.1 c)
