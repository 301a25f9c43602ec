theorem cn_W_7 : q_CN "WallLottery" 7 6 2 := ⟨q_N6, q_T6, q_Y6, rfl, q_Tw6, q_Ty6, by decide +kernel, by decide +kernel, by decide +kernel, by decide +kernel⟩
theorem cn_W_16 : q_CN "WallLottery" 16 7 10 := ⟨q_N7, q_T7, q_Y7, rfl, q_Tw7, q_Ty7, by decide +kernel, by decide +kernel, by decide +kernel, by decide +kernel⟩
theorem cn_W_25 : q_CN "WallLottery" 25 4 3 := ⟨q_N4, q_T4, q_Y4, rfl, q_Tw4, q_Ty4, by decide +kernel, by decide +kernel, by decide +kernel, by decide +kernel⟩
theorem cn_W_34 : q_CN "WallLottery" 34 9 9 := ⟨q_N9, q_T9, q_Y9, rfl, q_Tw9, q_Ty9, by decide +kernel, by decide +kernel, by decide +kernel, by decide +kernel⟩
theorem cn_W_41 : q_CN "WallLottery" 41 1 2 := ⟨q_N1, q_T1, q_Y1, rfl, q_Tw1, q_Ty1, by decide +kernel, by decide +kernel, by decide +kernel, by decide +kernel⟩
theorem cn_W_48 : q_CN "WallLottery" 48 5 3 := ⟨q_N5, q_T5, q_Y5, rfl, q_Tw5, q_Ty5, by decide +kernel, by decide +kernel, by decide +kernel, by decide +kernel⟩
theorem cn_W_55 : q_CN "WallLottery" 55 3 5 := ⟨q_N3, q_T3, q_Y3, rfl, q_Tw3, q_Ty3, by decide +kernel, by decide +kernel, by decide +kernel, by decide +kernel⟩
theorem cn_W_80 : q_CN "WallLottery" 80 8 18 := ⟨q_N8, q_T8, q_Y8, rfl, q_Tw8, q_Ty8, by decide +kernel, by decide +kernel, by decide +kernel, by decide +kernel⟩
theorem cn_W_90 : q_CN "WallLottery" 90 0 5 := ⟨q_N0, q_T0, q_Y0, rfl, q_Tw0, q_Ty0, by decide +kernel, by decide +kernel, by decide +kernel, by decide +kernel⟩
def fsW : List (Nat × Nat × Nat) := q_frz.filter (fun x => decide (x.1 < 159)) ++ [(0, 12, 27), (0, 13, 46), (0, 14, 65), (0, 15, 70)]
theorem Bn.sub {n : Nat} {fs fs' : List (Nat × Nat × Nat)} {ws : List Int64} {σ : q_S} (h : Bn n fs ws σ) (hs : ∀ x ∈ fs', x ∈ fs) : Bn n fs' ws σ := ⟨h.1, h.2.1, h.2.2.1, fun x hx => h.2.2.2 x (hs x hx)⟩
set_option maxRecDepth 20000 in
theorem W_init_ok {G : q_G} {d : Nat} {σ : q_S} (hB0 : Bn 1 [] [] σ) : q_Call G (d + 3) 158 8611 X_W_init [.ref 0] σ (fun r σ' => r = none ∧ Bn 159 fsW [] σ') := by
  refine q_enter (by decide +kernel) (Nat.le_of_ble_eq_true rfl) ?_
  refine q_aload_n o_W_init_0 rfl ?_
  refine q_obj o_W_init_1 (by decide +kernel) (Nat.le_of_ble_eq_true rfl) ?_
  refine q_aload_n o_W_init_4 rfl ?_
  refine n_newO (b := 157) (sb := 8609) (N := 2) (n := 1) hB0 o_W_init_5 cn_W_7 rfl (Or.inr rfl) (fun σ1 hB1 => ?_)
  refine q_dup o_W_init_8 rfl ?_
  refine n_callI (b := 156) (sb := 7609) (n := 2) (n' := 3) (a := 1) (As := []) (st := [.ref 1, .ref 0]) hB1 o_W_init_9 k_W_9 rfl (Nat.le_of_ble_eq_true rfl) (Tp_init_ok (d := d + 1) (a := 1) hB1 (by decide +kernel) rfl rfl) rfl (fun σ2 hB2 => ?_)
  refine n_putR (n := 3) hB2 o_W_init_12 fp_W_10 (fun h => by first | rfl | cases h) rfl (by decide) (fun _ => rfl) (fun _ => rfl) (by decide +kernel) (fun σ3 hB3 => ?_)
  refine q_aload_n o_W_init_15 rfl ?_
  refine n_newO (b := 155) (sb := 7599) (N := 10) (n := 3) hB3 o_W_init_16 cn_W_16 rfl (Or.inr rfl) (fun σ4 hB4 => ?_)
  refine q_dup o_W_init_19 rfl ?_
  refine q_aload_n o_W_init_20 rfl ?_
  refine n_getR (v := 1) (n := 4) hB4 o_W_init_21 f_W_10 rfl (by decide) (by decide +kernel) ?_
  refine n_callI (b := 155) (sb := 7599) (n := 4) (n' := 4) (a := 3) (As := [.ref 1]) (st := [.ref 3, .ref 0]) hB4 o_W_init_24 k_W_18 rfl (Nat.le_of_ble_eq_true rfl) (Tk_init_ok (d := d + 1) (a := 3) hB4 (by decide +kernel) rfl) rfl (fun σ5 hB5 => ?_)
  refine n_putR (n := 4) hB5 o_W_init_27 fp_W_21 (fun h => by first | rfl | cases h) rfl (by decide) (fun _ => rfl) (fun _ => rfl) (by decide +kernel) (fun σ6 hB6 => ?_)
  refine q_aload_n o_W_init_30 rfl ?_
  refine n_newO (b := 154) (sb := 7596) (N := 3) (n := 4) hB6 o_W_init_31 cn_W_25 rfl (Or.inr rfl) (fun σ7 hB7 => ?_)
  refine q_dup o_W_init_34 rfl ?_
  refine q_aload_n o_W_init_35 rfl ?_
  refine n_getR (v := 3) (n := 5) hB7 o_W_init_36 f_W_21 rfl (by decide) (by decide +kernel) ?_
  refine n_callI (b := 154) (sb := 7596) (n := 5) (n' := 5) (a := 4) (As := [.ref 3]) (st := [.ref 4, .ref 0]) hB7 o_W_init_39 k_W_27 rfl (Nat.le_of_ble_eq_true rfl) (Rd_init_ok (d := d + 1) (a := 4) hB7 (by decide +kernel) rfl) rfl (fun σ8 hB8 => ?_)
  refine n_putR (n := 5) hB8 o_W_init_42 fp_W_30 (fun h => by first | rfl | cases h) rfl (by decide) (fun _ => rfl) (fun _ => rfl) (by decide +kernel) (fun σ9 hB9 => ?_)
  refine q_aload_n o_W_init_45 rfl ?_
  refine n_newO (b := 153) (sb := 7587) (N := 9) (n := 5) hB9 o_W_init_46 cn_W_34 rfl (Or.inr rfl) (fun σ10 hB10 => ?_)
  refine q_dup o_W_init_49 rfl ?_
  refine n_callI (b := 147) (sb := 4695) (n := 6) (n' := 12) (a := 5) (As := []) (st := [.ref 5, .ref 0]) hB10 o_W_init_50 k_W_36 rfl (Nat.le_of_ble_eq_true rfl) (Wy_init_ok (d := d + 1) (a := 5) hB10 (by decide +kernel) rfl rfl rfl rfl rfl rfl rfl) rfl (fun σ11 hB11 => ?_)
  refine n_putR (n := 12) hB11 o_W_init_53 fp_W_37 (fun h => by first | rfl | cases h) rfl (by decide) (fun _ => rfl) (fun _ => rfl) (by decide +kernel) (fun σ12 hB12 => ?_)
  refine q_aload_n o_W_init_56 rfl ?_
  refine n_newO (b := 146) (sb := 4693) (N := 2) (n := 12) hB12 o_W_init_57 cn_W_41 rfl (Or.inr rfl) (fun σ13 hB13 => ?_)
  refine q_dup o_W_init_60 rfl ?_
  refine n_callI (b := 145) (sb := 4687) (n := 13) (n' := 14) (a := 12) (As := []) (st := [.ref 12, .ref 0]) hB13 o_W_init_61 k_W_43 rfl (Nat.le_of_ble_eq_true rfl) (Di_init_ok (d := d + 1) (a := 12) hB13 (by decide +kernel) rfl rfl) rfl (fun σ14 hB14 => ?_)
  refine n_putR (n := 14) hB14 o_W_init_64 fp_W_44 (fun h => by first | rfl | cases h) rfl (by decide) (fun _ => rfl) (fun _ => rfl) (by decide +kernel) (fun σ15 hB15 => ?_)
  refine q_aload_n o_W_init_67 rfl ?_
  refine n_newO (b := 144) (sb := 4684) (N := 3) (n := 14) hB15 o_W_init_68 cn_W_48 rfl (Or.inr rfl) (fun σ16 hB16 => ?_)
  refine q_dup o_W_init_71 rfl ?_
  refine n_callI (b := 144) (sb := 4684) (n := 15) (n' := 15) (a := 14) (As := []) (st := [.ref 14, .ref 0]) hB16 o_W_init_72 k_W_50 rfl (Nat.le_of_ble_eq_true rfl) (Tl_init_ok (d := d + 1) (a := 14) hB16 (by decide +kernel) rfl) rfl (fun σ17 hB17 => ?_)
  refine n_putR (n := 15) hB17 o_W_init_75 fp_W_51 (fun h => by first | rfl | cases h) rfl (by decide) (fun _ => rfl) (fun _ => rfl) (by decide +kernel) (fun σ18 hB18 => ?_)
  refine q_aload_n o_W_init_78 rfl ?_
  refine n_newO (b := 143) (sb := 4679) (N := 5) (n := 15) hB18 o_W_init_79 cn_W_55 rfl (Or.inr rfl) (fun σ19 hB19 => ?_)
  refine q_dup o_W_init_82 rfl ?_
  refine n_callI (b := 140) (sb := 4631) (n := 16) (n' := 19) (a := 15) (As := []) (st := [.ref 15, .ref 0]) hB19 o_W_init_83 k_W_57 rfl (Nat.le_of_ble_eq_true rfl) (Li_init_ok (d := d + 1) (a := 15) hB19 (by decide +kernel) rfl rfl rfl rfl) rfl (fun σ20 hB20 => ?_)
  refine n_putR (n := 19) hB20 o_W_init_86 fp_W_58 (fun h => by first | rfl | cases h) rfl (by decide) (fun _ => rfl) (fun _ => rfl) (by decide +kernel) (fun σ21 hB21 => ?_)
  refine q_aload_n o_W_init_89 rfl ?_
  refine n_newO (b := 139) (sb := 4626) (N := 5) (n := 19) hB21 o_W_init_90 cn_W_55 rfl (Or.inr rfl) (fun σ22 hB22 => ?_)
  refine q_dup o_W_init_93 rfl ?_
  refine n_callI (b := 136) (sb := 4578) (n := 20) (n' := 23) (a := 19) (As := []) (st := [.ref 19, .ref 0]) hB22 o_W_init_94 k_W_57 rfl (Nat.le_of_ble_eq_true rfl) (Li_init_ok (d := d + 1) (a := 19) hB22 (by decide +kernel) rfl rfl rfl rfl) rfl (fun σ23 hB23 => ?_)
  refine n_putR (n := 23) hB23 o_W_init_97 fp_W_62 (fun h => by first | rfl | cases h) rfl (by decide) (fun _ => rfl) (fun _ => rfl) (by decide +kernel) (fun σ24 hB24 => ?_)
  refine q_aload_n o_W_init_100 rfl ?_
  refine q_bipush (v := 16) o_W_init_101 (by decide) ?_
  refine n_newLi (b := 135) (sb := 4562) (N := 16) (n := 23) hB24 o_W_init_103 (by decide +kernel) rfl rfl (by decide) (Or.inr rfl) (fun σ25 hB25 => ?_)
  refine n_putR (n := 24) hB25 o_W_init_106 fp_W_65 (fun h => by first | rfl | cases h) rfl (by decide) (fun _ => rfl) (fun _ => rfl) (by decide +kernel) (fun σ26 hB26 => ?_)
  refine q_aload_n o_W_init_109 rfl ?_
  refine q_iconst (v := 4) o_W_init_110 (by decide) ?_
  refine n_newLi (b := 134) (sb := 4558) (N := 4) (n := 24) hB26 o_W_init_111 (by decide +kernel) rfl rfl (by decide) (Or.inr rfl) (fun σ27 hB27 => ?_)
  refine n_putR (n := 25) hB27 o_W_init_114 fp_W_69 (fun h => by first | rfl | cases h) rfl (by decide) (fun _ => rfl) (fun _ => rfl) (by decide +kernel) (fun σ28 hB28 => ?_)
  refine q_aload_n o_W_init_117 rfl ?_
  refine q_iconst (v := 4) o_W_init_118 (by decide) ?_
  refine n_newTl (b := 133) (sb := 4554) (N := 4) (n := 25) hB28 o_W_init_119 (by decide +kernel) rfl rfl (by decide) (Or.inr rfl) (fun σ29 hB29 => ?_)
  refine n_putR (n := 26) hB29 o_W_init_122 fp_W_72 (fun h => by first | rfl | cases h) rfl (by decide) (fun _ => rfl) (fun _ => rfl) (by decide +kernel) (fun σ30 hB30 => ?_)
  refine q_aload_n o_W_init_125 rfl ?_
  refine q_iconst (v := 4) o_W_init_126 (by decide) ?_
  refine n_newB (b := 132) (sb := 4550) (N := 4) (n := 26) hB30 o_W_init_127 rfl rfl (by decide) (Or.inr rfl) (fun σ31 hB31 => ?_)
  refine n_putR (n := 27) hB31 o_W_init_129 fp_W_76 (fun h => by first | rfl | cases h) rfl (by decide) (fun _ => rfl) (fun _ => rfl) (by decide +kernel) (fun σ32 hB32 => ?_)
  refine q_aload_n o_W_init_132 rfl ?_
  refine n_newO (b := 131) (sb := 4532) (N := 18) (n := 27) hB32 o_W_init_133 cn_W_80 rfl (Or.inr rfl) (fun σ33 hB33 => ?_)
  refine q_dup o_W_init_136 rfl ?_
  refine n_callI (b := 113) (sb := 2912) (n := 28) (n' := 46) (a := 27) (As := []) (st := [.ref 27, .ref 0]) hB33 o_W_init_137 k_W_82 rfl (Nat.le_of_ble_eq_true rfl) (Tw_init_ok (d := d) (a := 27) hB33 (by decide +kernel) rfl rfl rfl rfl rfl rfl rfl rfl rfl rfl rfl rfl rfl rfl rfl rfl rfl rfl rfl) rfl (fun σ34 hB34 => ?_)
  refine n_putR (n := 46) hB34 o_W_init_140 fp_W_83 (fun h => by first | rfl | cases h) rfl (by decide) (fun _ => rfl) (fun _ => rfl) (by decide +kernel) (fun σ35 hB35 => ?_)
  refine q_aload_n o_W_init_143 rfl ?_
  refine n_newO (b := 112) (sb := 2894) (N := 18) (n := 46) hB35 o_W_init_144 cn_W_80 rfl (Or.inr rfl) (fun σ36 hB36 => ?_)
  refine q_dup o_W_init_147 rfl ?_
  refine n_callI (b := 94) (sb := 1274) (n := 47) (n' := 65) (a := 46) (As := []) (st := [.ref 46, .ref 0]) hB36 o_W_init_148 k_W_82 rfl (Nat.le_of_ble_eq_true rfl) (Tw_init_ok (d := d) (a := 46) hB36 (by decide +kernel) rfl rfl rfl rfl rfl rfl rfl rfl rfl rfl rfl rfl rfl rfl rfl rfl rfl rfl rfl) rfl (fun σ37 hB37 => ?_)
  refine n_putR (n := 65) hB37 o_W_init_151 fp_W_87 (fun h => by first | rfl | cases h) rfl (by decide) (fun _ => rfl) (fun _ => rfl) (by decide +kernel) (fun σ38 hB38 => ?_)
  refine q_aload_n o_W_init_154 rfl ?_
  refine n_newO (b := 93) (sb := 1269) (N := 5) (n := 65) hB38 o_W_init_155 cn_W_90 rfl (Or.inr rfl) (fun σ39 hB39 => ?_)
  refine q_dup o_W_init_158 rfl ?_
  refine n_callI (b := 89) (sb := 1173) (n := 66) (n' := 70) (a := 65) (As := []) (st := [.ref 65, .ref 0]) hB39 o_W_init_159 k_W_92 rfl (Nat.le_of_ble_eq_true rfl) (Dy_init_ok (d := d + 1) (a := 65) hB39 (by decide +kernel) rfl rfl rfl rfl rfl) rfl (fun σ40 hB40 => ?_)
  refine n_putR (n := 70) hB40 o_W_init_162 fp_W_93 (fun h => by first | rfl | cases h) rfl (by decide) (fun _ => rfl) (fun _ => rfl) (by decide +kernel) (fun σ41 hB41 => ?_)
  refine q_aload_n o_W_init_165 rfl ?_
  refine n_newO (b := 88) (sb := 1168) (N := 5) (n := 70) hB41 o_W_init_166 cn_W_90 rfl (Or.inr rfl) (fun σ42 hB42 => ?_)
  refine q_dup o_W_init_169 rfl ?_
  refine n_callI (b := 84) (sb := 1072) (n := 71) (n' := 75) (a := 70) (As := []) (st := [.ref 70, .ref 0]) hB42 o_W_init_170 k_W_92 rfl (Nat.le_of_ble_eq_true rfl) (Dy_init_ok (d := d + 1) (a := 70) hB42 (by decide +kernel) rfl rfl rfl rfl rfl) rfl (fun σ43 hB43 => ?_)
  refine n_putR (n := 75) hB43 o_W_init_173 fp_W_97 (fun h => by first | rfl | cases h) rfl (by decide) (fun _ => rfl) (fun _ => rfl) (by decide +kernel) (fun σ44 hB44 => ?_)
  refine q_iconst (v := 0) o_W_init_176 (by decide) ?_
  refine n_istn (ls' := [some (.ref 0), some (.int 0)]) o_W_init_177 (Nat.le_of_ble_eq_true rfl) rfl ?_
  refine q_iload_n o_W_init_178 rfl ?_
  refine q_bipush (v := 16) o_W_init_179 (by decide) ?_
  refine q_icmp_ge o_W_init_181 (fun c => absurd c (by decide)) (fun _ => ?_)
  refine q_aload_n o_W_init_184 rfl ?_
  refine n_getR (v := 23) (n := 75) hB44 o_W_init_185 f_W_65 rfl (by decide) (by decide +kernel) ?_
  refine q_iload_n o_W_init_188 rfl ?_
  refine n_newO (b := 83) (sb := 1067) (N := 5) (n := 75) hB44 o_W_init_189 cn_W_55 rfl (Or.inr rfl) (fun σ45 hB45 => ?_)
  refine q_dup o_W_init_192 rfl ?_
  refine n_callI (b := 80) (sb := 1019) (n := 76) (n' := 79) (a := 75) (As := []) (st := [.ref 75, .int 0, .ref 23]) hB45 o_W_init_193 k_W_57 rfl (Nat.le_of_ble_eq_true rfl) (Li_init_ok (d := d + 1) (a := 75) hB45 (by decide +kernel) rfl rfl rfl rfl) rfl (fun σ46 hB46 => ?_)
  refine n_aast5 (n := 79) (i := 0) hB46 o_W_init_196 rfl (by decide) rfl (by decide) rfl (by decide) (by decide) (by decide +kernel) (fun σ47 hB47 => ?_)
  refine n_inc (v := 1) (ls' := [some (.ref 0), some (.int 1)]) o_W_init_197 rfl (by decide) (Nat.le_of_ble_eq_true rfl) rfl ?_
  refine q_goto o_W_init_200 ?_
  refine q_iload_n o_W_init_178 rfl ?_
  refine q_bipush (v := 16) o_W_init_179 (by decide) ?_
  refine q_icmp_ge o_W_init_181 (fun c => absurd c (by decide)) (fun _ => ?_)
  refine q_aload_n o_W_init_184 rfl ?_
  refine n_getR (v := 23) (n := 79) hB47 o_W_init_185 f_W_65 rfl (by decide) (by decide +kernel) ?_
  refine q_iload_n o_W_init_188 rfl ?_
  refine n_newO (b := 79) (sb := 1014) (N := 5) (n := 79) hB47 o_W_init_189 cn_W_55 rfl (Or.inr rfl) (fun σ48 hB48 => ?_)
  refine q_dup o_W_init_192 rfl ?_
  refine n_callI (b := 76) (sb := 966) (n := 80) (n' := 83) (a := 79) (As := []) (st := [.ref 79, .int 1, .ref 23]) hB48 o_W_init_193 k_W_57 rfl (Nat.le_of_ble_eq_true rfl) (Li_init_ok (d := d + 1) (a := 79) hB48 (by decide +kernel) rfl rfl rfl rfl) rfl (fun σ49 hB49 => ?_)
  refine n_aast5 (n := 83) (i := 1) hB49 o_W_init_196 rfl (by decide) rfl (by decide) rfl (by decide) (by decide) (by decide +kernel) (fun σ50 hB50 => ?_)
  refine n_inc (v := 2) (ls' := [some (.ref 0), some (.int 2)]) o_W_init_197 rfl (by decide) (Nat.le_of_ble_eq_true rfl) rfl ?_
  refine q_goto o_W_init_200 ?_
  refine q_iload_n o_W_init_178 rfl ?_
  refine q_bipush (v := 16) o_W_init_179 (by decide) ?_
  refine q_icmp_ge o_W_init_181 (fun c => absurd c (by decide)) (fun _ => ?_)
  refine q_aload_n o_W_init_184 rfl ?_
  refine n_getR (v := 23) (n := 83) hB50 o_W_init_185 f_W_65 rfl (by decide) (by decide +kernel) ?_
  refine q_iload_n o_W_init_188 rfl ?_
  refine n_newO (b := 75) (sb := 961) (N := 5) (n := 83) hB50 o_W_init_189 cn_W_55 rfl (Or.inr rfl) (fun σ51 hB51 => ?_)
  refine q_dup o_W_init_192 rfl ?_
  refine n_callI (b := 72) (sb := 913) (n := 84) (n' := 87) (a := 83) (As := []) (st := [.ref 83, .int 2, .ref 23]) hB51 o_W_init_193 k_W_57 rfl (Nat.le_of_ble_eq_true rfl) (Li_init_ok (d := d + 1) (a := 83) hB51 (by decide +kernel) rfl rfl rfl rfl) rfl (fun σ52 hB52 => ?_)
  refine n_aast5 (n := 87) (i := 2) hB52 o_W_init_196 rfl (by decide) rfl (by decide) rfl (by decide) (by decide) (by decide +kernel) (fun σ53 hB53 => ?_)
  refine n_inc (v := 3) (ls' := [some (.ref 0), some (.int 3)]) o_W_init_197 rfl (by decide) (Nat.le_of_ble_eq_true rfl) rfl ?_
  refine q_goto o_W_init_200 ?_
  refine q_iload_n o_W_init_178 rfl ?_
  refine q_bipush (v := 16) o_W_init_179 (by decide) ?_
  refine q_icmp_ge o_W_init_181 (fun c => absurd c (by decide)) (fun _ => ?_)
  refine q_aload_n o_W_init_184 rfl ?_
  refine n_getR (v := 23) (n := 87) hB53 o_W_init_185 f_W_65 rfl (by decide) (by decide +kernel) ?_
  refine q_iload_n o_W_init_188 rfl ?_
  refine n_newO (b := 71) (sb := 908) (N := 5) (n := 87) hB53 o_W_init_189 cn_W_55 rfl (Or.inr rfl) (fun σ54 hB54 => ?_)
  refine q_dup o_W_init_192 rfl ?_
  refine n_callI (b := 68) (sb := 860) (n := 88) (n' := 91) (a := 87) (As := []) (st := [.ref 87, .int 3, .ref 23]) hB54 o_W_init_193 k_W_57 rfl (Nat.le_of_ble_eq_true rfl) (Li_init_ok (d := d + 1) (a := 87) hB54 (by decide +kernel) rfl rfl rfl rfl) rfl (fun σ55 hB55 => ?_)
  refine n_aast5 (n := 91) (i := 3) hB55 o_W_init_196 rfl (by decide) rfl (by decide) rfl (by decide) (by decide) (by decide +kernel) (fun σ56 hB56 => ?_)
  refine n_inc (v := 4) (ls' := [some (.ref 0), some (.int 4)]) o_W_init_197 rfl (by decide) (Nat.le_of_ble_eq_true rfl) rfl ?_
  refine q_goto o_W_init_200 ?_
  refine q_iload_n o_W_init_178 rfl ?_
  refine q_bipush (v := 16) o_W_init_179 (by decide) ?_
  refine q_icmp_ge o_W_init_181 (fun c => absurd c (by decide)) (fun _ => ?_)
  refine q_aload_n o_W_init_184 rfl ?_
  refine n_getR (v := 23) (n := 91) hB56 o_W_init_185 f_W_65 rfl (by decide) (by decide +kernel) ?_
  refine q_iload_n o_W_init_188 rfl ?_
  refine n_newO (b := 67) (sb := 855) (N := 5) (n := 91) hB56 o_W_init_189 cn_W_55 rfl (Or.inr rfl) (fun σ57 hB57 => ?_)
  refine q_dup o_W_init_192 rfl ?_
  refine n_callI (b := 64) (sb := 807) (n := 92) (n' := 95) (a := 91) (As := []) (st := [.ref 91, .int 4, .ref 23]) hB57 o_W_init_193 k_W_57 rfl (Nat.le_of_ble_eq_true rfl) (Li_init_ok (d := d + 1) (a := 91) hB57 (by decide +kernel) rfl rfl rfl rfl) rfl (fun σ58 hB58 => ?_)
  refine n_aast5 (n := 95) (i := 4) hB58 o_W_init_196 rfl (by decide) rfl (by decide) rfl (by decide) (by decide) (by decide +kernel) (fun σ59 hB59 => ?_)
  refine n_inc (v := 5) (ls' := [some (.ref 0), some (.int 5)]) o_W_init_197 rfl (by decide) (Nat.le_of_ble_eq_true rfl) rfl ?_
  refine q_goto o_W_init_200 ?_
  refine q_iload_n o_W_init_178 rfl ?_
  refine q_bipush (v := 16) o_W_init_179 (by decide) ?_
  refine q_icmp_ge o_W_init_181 (fun c => absurd c (by decide)) (fun _ => ?_)
  refine q_aload_n o_W_init_184 rfl ?_
  refine n_getR (v := 23) (n := 95) hB59 o_W_init_185 f_W_65 rfl (by decide) (by decide +kernel) ?_
  refine q_iload_n o_W_init_188 rfl ?_
  refine n_newO (b := 63) (sb := 802) (N := 5) (n := 95) hB59 o_W_init_189 cn_W_55 rfl (Or.inr rfl) (fun σ60 hB60 => ?_)
  refine q_dup o_W_init_192 rfl ?_
  refine n_callI (b := 60) (sb := 754) (n := 96) (n' := 99) (a := 95) (As := []) (st := [.ref 95, .int 5, .ref 23]) hB60 o_W_init_193 k_W_57 rfl (Nat.le_of_ble_eq_true rfl) (Li_init_ok (d := d + 1) (a := 95) hB60 (by decide +kernel) rfl rfl rfl rfl) rfl (fun σ61 hB61 => ?_)
  refine n_aast5 (n := 99) (i := 5) hB61 o_W_init_196 rfl (by decide) rfl (by decide) rfl (by decide) (by decide) (by decide +kernel) (fun σ62 hB62 => ?_)
  refine n_inc (v := 6) (ls' := [some (.ref 0), some (.int 6)]) o_W_init_197 rfl (by decide) (Nat.le_of_ble_eq_true rfl) rfl ?_
  refine q_goto o_W_init_200 ?_
  refine q_iload_n o_W_init_178 rfl ?_
  refine q_bipush (v := 16) o_W_init_179 (by decide) ?_
  refine q_icmp_ge o_W_init_181 (fun c => absurd c (by decide)) (fun _ => ?_)
  refine q_aload_n o_W_init_184 rfl ?_
  refine n_getR (v := 23) (n := 99) hB62 o_W_init_185 f_W_65 rfl (by decide) (by decide +kernel) ?_
  refine q_iload_n o_W_init_188 rfl ?_
  refine n_newO (b := 59) (sb := 749) (N := 5) (n := 99) hB62 o_W_init_189 cn_W_55 rfl (Or.inr rfl) (fun σ63 hB63 => ?_)
  refine q_dup o_W_init_192 rfl ?_
  refine n_callI (b := 56) (sb := 701) (n := 100) (n' := 103) (a := 99) (As := []) (st := [.ref 99, .int 6, .ref 23]) hB63 o_W_init_193 k_W_57 rfl (Nat.le_of_ble_eq_true rfl) (Li_init_ok (d := d + 1) (a := 99) hB63 (by decide +kernel) rfl rfl rfl rfl) rfl (fun σ64 hB64 => ?_)
  refine n_aast5 (n := 103) (i := 6) hB64 o_W_init_196 rfl (by decide) rfl (by decide) rfl (by decide) (by decide) (by decide +kernel) (fun σ65 hB65 => ?_)
  refine n_inc (v := 7) (ls' := [some (.ref 0), some (.int 7)]) o_W_init_197 rfl (by decide) (Nat.le_of_ble_eq_true rfl) rfl ?_
  refine q_goto o_W_init_200 ?_
  refine q_iload_n o_W_init_178 rfl ?_
  refine q_bipush (v := 16) o_W_init_179 (by decide) ?_
  refine q_icmp_ge o_W_init_181 (fun c => absurd c (by decide)) (fun _ => ?_)
  refine q_aload_n o_W_init_184 rfl ?_
  refine n_getR (v := 23) (n := 103) hB65 o_W_init_185 f_W_65 rfl (by decide) (by decide +kernel) ?_
  refine q_iload_n o_W_init_188 rfl ?_
  refine n_newO (b := 55) (sb := 696) (N := 5) (n := 103) hB65 o_W_init_189 cn_W_55 rfl (Or.inr rfl) (fun σ66 hB66 => ?_)
  refine q_dup o_W_init_192 rfl ?_
  refine n_callI (b := 52) (sb := 648) (n := 104) (n' := 107) (a := 103) (As := []) (st := [.ref 103, .int 7, .ref 23]) hB66 o_W_init_193 k_W_57 rfl (Nat.le_of_ble_eq_true rfl) (Li_init_ok (d := d + 1) (a := 103) hB66 (by decide +kernel) rfl rfl rfl rfl) rfl (fun σ67 hB67 => ?_)
  refine n_aast5 (n := 107) (i := 7) hB67 o_W_init_196 rfl (by decide) rfl (by decide) rfl (by decide) (by decide) (by decide +kernel) (fun σ68 hB68 => ?_)
  refine n_inc (v := 8) (ls' := [some (.ref 0), some (.int 8)]) o_W_init_197 rfl (by decide) (Nat.le_of_ble_eq_true rfl) rfl ?_
  refine q_goto o_W_init_200 ?_
  refine q_iload_n o_W_init_178 rfl ?_
  refine q_bipush (v := 16) o_W_init_179 (by decide) ?_
  refine q_icmp_ge o_W_init_181 (fun c => absurd c (by decide)) (fun _ => ?_)
  refine q_aload_n o_W_init_184 rfl ?_
  refine n_getR (v := 23) (n := 107) hB68 o_W_init_185 f_W_65 rfl (by decide) (by decide +kernel) ?_
  refine q_iload_n o_W_init_188 rfl ?_
  refine n_newO (b := 51) (sb := 643) (N := 5) (n := 107) hB68 o_W_init_189 cn_W_55 rfl (Or.inr rfl) (fun σ69 hB69 => ?_)
  refine q_dup o_W_init_192 rfl ?_
  refine n_callI (b := 48) (sb := 595) (n := 108) (n' := 111) (a := 107) (As := []) (st := [.ref 107, .int 8, .ref 23]) hB69 o_W_init_193 k_W_57 rfl (Nat.le_of_ble_eq_true rfl) (Li_init_ok (d := d + 1) (a := 107) hB69 (by decide +kernel) rfl rfl rfl rfl) rfl (fun σ70 hB70 => ?_)
  refine n_aast5 (n := 111) (i := 8) hB70 o_W_init_196 rfl (by decide) rfl (by decide) rfl (by decide) (by decide) (by decide +kernel) (fun σ71 hB71 => ?_)
  refine n_inc (v := 9) (ls' := [some (.ref 0), some (.int 9)]) o_W_init_197 rfl (by decide) (Nat.le_of_ble_eq_true rfl) rfl ?_
  refine q_goto o_W_init_200 ?_
  refine q_iload_n o_W_init_178 rfl ?_
  refine q_bipush (v := 16) o_W_init_179 (by decide) ?_
  refine q_icmp_ge o_W_init_181 (fun c => absurd c (by decide)) (fun _ => ?_)
  refine q_aload_n o_W_init_184 rfl ?_
  refine n_getR (v := 23) (n := 111) hB71 o_W_init_185 f_W_65 rfl (by decide) (by decide +kernel) ?_
  refine q_iload_n o_W_init_188 rfl ?_
  refine n_newO (b := 47) (sb := 590) (N := 5) (n := 111) hB71 o_W_init_189 cn_W_55 rfl (Or.inr rfl) (fun σ72 hB72 => ?_)
  refine q_dup o_W_init_192 rfl ?_
  refine n_callI (b := 44) (sb := 542) (n := 112) (n' := 115) (a := 111) (As := []) (st := [.ref 111, .int 9, .ref 23]) hB72 o_W_init_193 k_W_57 rfl (Nat.le_of_ble_eq_true rfl) (Li_init_ok (d := d + 1) (a := 111) hB72 (by decide +kernel) rfl rfl rfl rfl) rfl (fun σ73 hB73 => ?_)
  refine n_aast5 (n := 115) (i := 9) hB73 o_W_init_196 rfl (by decide) rfl (by decide) rfl (by decide) (by decide) (by decide +kernel) (fun σ74 hB74 => ?_)
  refine n_inc (v := 10) (ls' := [some (.ref 0), some (.int 10)]) o_W_init_197 rfl (by decide) (Nat.le_of_ble_eq_true rfl) rfl ?_
  refine q_goto o_W_init_200 ?_
  refine q_iload_n o_W_init_178 rfl ?_
  refine q_bipush (v := 16) o_W_init_179 (by decide) ?_
  refine q_icmp_ge o_W_init_181 (fun c => absurd c (by decide)) (fun _ => ?_)
  refine q_aload_n o_W_init_184 rfl ?_
  refine n_getR (v := 23) (n := 115) hB74 o_W_init_185 f_W_65 rfl (by decide) (by decide +kernel) ?_
  refine q_iload_n o_W_init_188 rfl ?_
  refine n_newO (b := 43) (sb := 537) (N := 5) (n := 115) hB74 o_W_init_189 cn_W_55 rfl (Or.inr rfl) (fun σ75 hB75 => ?_)
  refine q_dup o_W_init_192 rfl ?_
  refine n_callI (b := 40) (sb := 489) (n := 116) (n' := 119) (a := 115) (As := []) (st := [.ref 115, .int 10, .ref 23]) hB75 o_W_init_193 k_W_57 rfl (Nat.le_of_ble_eq_true rfl) (Li_init_ok (d := d + 1) (a := 115) hB75 (by decide +kernel) rfl rfl rfl rfl) rfl (fun σ76 hB76 => ?_)
  refine n_aast5 (n := 119) (i := 10) hB76 o_W_init_196 rfl (by decide) rfl (by decide) rfl (by decide) (by decide) (by decide +kernel) (fun σ77 hB77 => ?_)
  refine n_inc (v := 11) (ls' := [some (.ref 0), some (.int 11)]) o_W_init_197 rfl (by decide) (Nat.le_of_ble_eq_true rfl) rfl ?_
  refine q_goto o_W_init_200 ?_
  refine q_iload_n o_W_init_178 rfl ?_
  refine q_bipush (v := 16) o_W_init_179 (by decide) ?_
  refine q_icmp_ge o_W_init_181 (fun c => absurd c (by decide)) (fun _ => ?_)
  refine q_aload_n o_W_init_184 rfl ?_
  refine n_getR (v := 23) (n := 119) hB77 o_W_init_185 f_W_65 rfl (by decide) (by decide +kernel) ?_
  refine q_iload_n o_W_init_188 rfl ?_
  refine n_newO (b := 39) (sb := 484) (N := 5) (n := 119) hB77 o_W_init_189 cn_W_55 rfl (Or.inr rfl) (fun σ78 hB78 => ?_)
  refine q_dup o_W_init_192 rfl ?_
  refine n_callI (b := 36) (sb := 436) (n := 120) (n' := 123) (a := 119) (As := []) (st := [.ref 119, .int 11, .ref 23]) hB78 o_W_init_193 k_W_57 rfl (Nat.le_of_ble_eq_true rfl) (Li_init_ok (d := d + 1) (a := 119) hB78 (by decide +kernel) rfl rfl rfl rfl) rfl (fun σ79 hB79 => ?_)
  refine n_aast5 (n := 123) (i := 11) hB79 o_W_init_196 rfl (by decide) rfl (by decide) rfl (by decide) (by decide) (by decide +kernel) (fun σ80 hB80 => ?_)
  refine n_inc (v := 12) (ls' := [some (.ref 0), some (.int 12)]) o_W_init_197 rfl (by decide) (Nat.le_of_ble_eq_true rfl) rfl ?_
  refine q_goto o_W_init_200 ?_
  refine q_iload_n o_W_init_178 rfl ?_
  refine q_bipush (v := 16) o_W_init_179 (by decide) ?_
  refine q_icmp_ge o_W_init_181 (fun c => absurd c (by decide)) (fun _ => ?_)
  refine q_aload_n o_W_init_184 rfl ?_
  refine n_getR (v := 23) (n := 123) hB80 o_W_init_185 f_W_65 rfl (by decide) (by decide +kernel) ?_
  refine q_iload_n o_W_init_188 rfl ?_
  refine n_newO (b := 35) (sb := 431) (N := 5) (n := 123) hB80 o_W_init_189 cn_W_55 rfl (Or.inr rfl) (fun σ81 hB81 => ?_)
  refine q_dup o_W_init_192 rfl ?_
  refine n_callI (b := 32) (sb := 383) (n := 124) (n' := 127) (a := 123) (As := []) (st := [.ref 123, .int 12, .ref 23]) hB81 o_W_init_193 k_W_57 rfl (Nat.le_of_ble_eq_true rfl) (Li_init_ok (d := d + 1) (a := 123) hB81 (by decide +kernel) rfl rfl rfl rfl) rfl (fun σ82 hB82 => ?_)
  refine n_aast5 (n := 127) (i := 12) hB82 o_W_init_196 rfl (by decide) rfl (by decide) rfl (by decide) (by decide) (by decide +kernel) (fun σ83 hB83 => ?_)
  refine n_inc (v := 13) (ls' := [some (.ref 0), some (.int 13)]) o_W_init_197 rfl (by decide) (Nat.le_of_ble_eq_true rfl) rfl ?_
  refine q_goto o_W_init_200 ?_
  refine q_iload_n o_W_init_178 rfl ?_
  refine q_bipush (v := 16) o_W_init_179 (by decide) ?_
  refine q_icmp_ge o_W_init_181 (fun c => absurd c (by decide)) (fun _ => ?_)
  refine q_aload_n o_W_init_184 rfl ?_
  refine n_getR (v := 23) (n := 127) hB83 o_W_init_185 f_W_65 rfl (by decide) (by decide +kernel) ?_
  refine q_iload_n o_W_init_188 rfl ?_
  refine n_newO (b := 31) (sb := 378) (N := 5) (n := 127) hB83 o_W_init_189 cn_W_55 rfl (Or.inr rfl) (fun σ84 hB84 => ?_)
  refine q_dup o_W_init_192 rfl ?_
  refine n_callI (b := 28) (sb := 330) (n := 128) (n' := 131) (a := 127) (As := []) (st := [.ref 127, .int 13, .ref 23]) hB84 o_W_init_193 k_W_57 rfl (Nat.le_of_ble_eq_true rfl) (Li_init_ok (d := d + 1) (a := 127) hB84 (by decide +kernel) rfl rfl rfl rfl) rfl (fun σ85 hB85 => ?_)
  refine n_aast5 (n := 131) (i := 13) hB85 o_W_init_196 rfl (by decide) rfl (by decide) rfl (by decide) (by decide) (by decide +kernel) (fun σ86 hB86 => ?_)
  refine n_inc (v := 14) (ls' := [some (.ref 0), some (.int 14)]) o_W_init_197 rfl (by decide) (Nat.le_of_ble_eq_true rfl) rfl ?_
  refine q_goto o_W_init_200 ?_
  refine q_iload_n o_W_init_178 rfl ?_
  refine q_bipush (v := 16) o_W_init_179 (by decide) ?_
  refine q_icmp_ge o_W_init_181 (fun c => absurd c (by decide)) (fun _ => ?_)
  refine q_aload_n o_W_init_184 rfl ?_
  refine n_getR (v := 23) (n := 131) hB86 o_W_init_185 f_W_65 rfl (by decide) (by decide +kernel) ?_
  refine q_iload_n o_W_init_188 rfl ?_
  refine n_newO (b := 27) (sb := 325) (N := 5) (n := 131) hB86 o_W_init_189 cn_W_55 rfl (Or.inr rfl) (fun σ87 hB87 => ?_)
  refine q_dup o_W_init_192 rfl ?_
  refine n_callI (b := 24) (sb := 277) (n := 132) (n' := 135) (a := 131) (As := []) (st := [.ref 131, .int 14, .ref 23]) hB87 o_W_init_193 k_W_57 rfl (Nat.le_of_ble_eq_true rfl) (Li_init_ok (d := d + 1) (a := 131) hB87 (by decide +kernel) rfl rfl rfl rfl) rfl (fun σ88 hB88 => ?_)
  refine n_aast5 (n := 135) (i := 14) hB88 o_W_init_196 rfl (by decide) rfl (by decide) rfl (by decide) (by decide) (by decide +kernel) (fun σ89 hB89 => ?_)
  refine n_inc (v := 15) (ls' := [some (.ref 0), some (.int 15)]) o_W_init_197 rfl (by decide) (Nat.le_of_ble_eq_true rfl) rfl ?_
  refine q_goto o_W_init_200 ?_
  refine q_iload_n o_W_init_178 rfl ?_
  refine q_bipush (v := 16) o_W_init_179 (by decide) ?_
  refine q_icmp_ge o_W_init_181 (fun c => absurd c (by decide)) (fun _ => ?_)
  refine q_aload_n o_W_init_184 rfl ?_
  refine n_getR (v := 23) (n := 135) hB89 o_W_init_185 f_W_65 rfl (by decide) (by decide +kernel) ?_
  refine q_iload_n o_W_init_188 rfl ?_
  refine n_newO (b := 23) (sb := 272) (N := 5) (n := 135) hB89 o_W_init_189 cn_W_55 rfl (Or.inr rfl) (fun σ90 hB90 => ?_)
  refine q_dup o_W_init_192 rfl ?_
  refine n_callI (b := 20) (sb := 224) (n := 136) (n' := 139) (a := 135) (As := []) (st := [.ref 135, .int 15, .ref 23]) hB90 o_W_init_193 k_W_57 rfl (Nat.le_of_ble_eq_true rfl) (Li_init_ok (d := d + 1) (a := 135) hB90 (by decide +kernel) rfl rfl rfl rfl) rfl (fun σ91 hB91 => ?_)
  refine n_aast5 (n := 139) (i := 15) hB91 o_W_init_196 rfl (by decide) rfl (by decide) rfl (by decide) (by decide) (by decide +kernel) (fun σ92 hB92 => ?_)
  refine n_inc (v := 16) (ls' := [some (.ref 0), some (.int 16)]) o_W_init_197 rfl (by decide) (Nat.le_of_ble_eq_true rfl) rfl ?_
  refine q_goto o_W_init_200 ?_
  refine q_iload_n o_W_init_178 rfl ?_
  refine q_bipush (v := 16) o_W_init_179 (by decide) ?_
  refine q_icmp_ge o_W_init_181 (fun _ => ?_) (fun c => absurd (by decide) c)
  refine q_iconst (v := 0) o_W_init_203 (by decide) ?_
  refine n_istn (ls' := [some (.ref 0), some (.int 0)]) o_W_init_204 (Nat.le_of_ble_eq_true rfl) rfl ?_
  refine q_iload_n o_W_init_205 rfl ?_
  refine q_iconst (v := 4) o_W_init_206 (by decide) ?_
  refine q_icmp_ge o_W_init_207 (fun c => absurd c (by decide)) (fun _ => ?_)
  refine q_aload_n o_W_init_210 rfl ?_
  refine n_getR (v := 24) (n := 139) hB92 o_W_init_211 f_W_69 rfl (by decide) (by decide +kernel) ?_
  refine q_iload_n o_W_init_214 rfl ?_
  refine n_newO (b := 19) (sb := 219) (N := 5) (n := 139) hB92 o_W_init_215 cn_W_55 rfl (Or.inr rfl) (fun σ93 hB93 => ?_)
  refine q_dup o_W_init_218 rfl ?_
  refine n_callI (b := 16) (sb := 171) (n := 140) (n' := 143) (a := 139) (As := []) (st := [.ref 139, .int 0, .ref 24]) hB93 o_W_init_219 k_W_57 rfl (Nat.le_of_ble_eq_true rfl) (Li_init_ok (d := d + 1) (a := 139) hB93 (by decide +kernel) rfl rfl rfl rfl) rfl (fun σ94 hB94 => ?_)
  refine n_aast5 (n := 143) (i := 0) hB94 o_W_init_222 rfl (by decide) rfl (by decide) rfl (by decide) (by decide) (by decide +kernel) (fun σ95 hB95 => ?_)
  refine q_aload_n o_W_init_223 rfl ?_
  refine n_getR (v := 25) (n := 143) hB95 o_W_init_224 f_W_72 rfl (by decide) (by decide +kernel) ?_
  refine q_iload_n o_W_init_227 rfl ?_
  refine n_newO (b := 15) (sb := 168) (N := 3) (n := 143) hB95 o_W_init_228 cn_W_48 rfl (Or.inr rfl) (fun σ96 hB96 => ?_)
  refine q_dup o_W_init_231 rfl ?_
  refine n_callI (b := 15) (sb := 168) (n := 144) (n' := 144) (a := 143) (As := []) (st := [.ref 143, .int 0, .ref 25]) hB96 o_W_init_232 k_W_50 rfl (Nat.le_of_ble_eq_true rfl) (Tl_init_ok (d := d + 1) (a := 143) hB96 (by decide +kernel) rfl) rfl (fun σ97 hB97 => ?_)
  refine n_aast6 (n := 144) (i := 0) hB97 o_W_init_235 rfl (by decide) rfl (by decide) rfl (by decide) (by decide) (by decide +kernel) (fun σ98 hB98 => ?_)
  refine n_inc (v := 1) (ls' := [some (.ref 0), some (.int 1)]) o_W_init_236 rfl (by decide) (Nat.le_of_ble_eq_true rfl) rfl ?_
  refine q_goto o_W_init_239 ?_
  refine q_iload_n o_W_init_205 rfl ?_
  refine q_iconst (v := 4) o_W_init_206 (by decide) ?_
  refine q_icmp_ge o_W_init_207 (fun c => absurd c (by decide)) (fun _ => ?_)
  refine q_aload_n o_W_init_210 rfl ?_
  refine n_getR (v := 24) (n := 144) hB98 o_W_init_211 f_W_69 rfl (by decide) (by decide +kernel) ?_
  refine q_iload_n o_W_init_214 rfl ?_
  refine n_newO (b := 14) (sb := 163) (N := 5) (n := 144) hB98 o_W_init_215 cn_W_55 rfl (Or.inr rfl) (fun σ99 hB99 => ?_)
  refine q_dup o_W_init_218 rfl ?_
  refine n_callI (b := 11) (sb := 115) (n := 145) (n' := 148) (a := 144) (As := []) (st := [.ref 144, .int 1, .ref 24]) hB99 o_W_init_219 k_W_57 rfl (Nat.le_of_ble_eq_true rfl) (Li_init_ok (d := d + 1) (a := 144) hB99 (by decide +kernel) rfl rfl rfl rfl) rfl (fun σ100 hB100 => ?_)
  refine n_aast5 (n := 148) (i := 1) hB100 o_W_init_222 rfl (by decide) rfl (by decide) rfl (by decide) (by decide) (by decide +kernel) (fun σ101 hB101 => ?_)
  refine q_aload_n o_W_init_223 rfl ?_
  refine n_getR (v := 25) (n := 148) hB101 o_W_init_224 f_W_72 rfl (by decide) (by decide +kernel) ?_
  refine q_iload_n o_W_init_227 rfl ?_
  refine n_newO (b := 10) (sb := 112) (N := 3) (n := 148) hB101 o_W_init_228 cn_W_48 rfl (Or.inr rfl) (fun σ102 hB102 => ?_)
  refine q_dup o_W_init_231 rfl ?_
  refine n_callI (b := 10) (sb := 112) (n := 149) (n' := 149) (a := 148) (As := []) (st := [.ref 148, .int 1, .ref 25]) hB102 o_W_init_232 k_W_50 rfl (Nat.le_of_ble_eq_true rfl) (Tl_init_ok (d := d + 1) (a := 148) hB102 (by decide +kernel) rfl) rfl (fun σ103 hB103 => ?_)
  refine n_aast6 (n := 149) (i := 1) hB103 o_W_init_235 rfl (by decide) rfl (by decide) rfl (by decide) (by decide) (by decide +kernel) (fun σ104 hB104 => ?_)
  refine n_inc (v := 2) (ls' := [some (.ref 0), some (.int 2)]) o_W_init_236 rfl (by decide) (Nat.le_of_ble_eq_true rfl) rfl ?_
  refine q_goto o_W_init_239 ?_
  refine q_iload_n o_W_init_205 rfl ?_
  refine q_iconst (v := 4) o_W_init_206 (by decide) ?_
  refine q_icmp_ge o_W_init_207 (fun c => absurd c (by decide)) (fun _ => ?_)
  refine q_aload_n o_W_init_210 rfl ?_
  refine n_getR (v := 24) (n := 149) hB104 o_W_init_211 f_W_69 rfl (by decide) (by decide +kernel) ?_
  refine q_iload_n o_W_init_214 rfl ?_
  refine n_newO (b := 9) (sb := 107) (N := 5) (n := 149) hB104 o_W_init_215 cn_W_55 rfl (Or.inr rfl) (fun σ105 hB105 => ?_)
  refine q_dup o_W_init_218 rfl ?_
  refine n_callI (b := 6) (sb := 59) (n := 150) (n' := 153) (a := 149) (As := []) (st := [.ref 149, .int 2, .ref 24]) hB105 o_W_init_219 k_W_57 rfl (Nat.le_of_ble_eq_true rfl) (Li_init_ok (d := d + 1) (a := 149) hB105 (by decide +kernel) rfl rfl rfl rfl) rfl (fun σ106 hB106 => ?_)
  refine n_aast5 (n := 153) (i := 2) hB106 o_W_init_222 rfl (by decide) rfl (by decide) rfl (by decide) (by decide) (by decide +kernel) (fun σ107 hB107 => ?_)
  refine q_aload_n o_W_init_223 rfl ?_
  refine n_getR (v := 25) (n := 153) hB107 o_W_init_224 f_W_72 rfl (by decide) (by decide +kernel) ?_
  refine q_iload_n o_W_init_227 rfl ?_
  refine n_newO (b := 5) (sb := 56) (N := 3) (n := 153) hB107 o_W_init_228 cn_W_48 rfl (Or.inr rfl) (fun σ108 hB108 => ?_)
  refine q_dup o_W_init_231 rfl ?_
  refine n_callI (b := 5) (sb := 56) (n := 154) (n' := 154) (a := 153) (As := []) (st := [.ref 153, .int 2, .ref 25]) hB108 o_W_init_232 k_W_50 rfl (Nat.le_of_ble_eq_true rfl) (Tl_init_ok (d := d + 1) (a := 153) hB108 (by decide +kernel) rfl) rfl (fun σ109 hB109 => ?_)
  refine n_aast6 (n := 154) (i := 2) hB109 o_W_init_235 rfl (by decide) rfl (by decide) rfl (by decide) (by decide) (by decide +kernel) (fun σ110 hB110 => ?_)
  refine n_inc (v := 3) (ls' := [some (.ref 0), some (.int 3)]) o_W_init_236 rfl (by decide) (Nat.le_of_ble_eq_true rfl) rfl ?_
  refine q_goto o_W_init_239 ?_
  refine q_iload_n o_W_init_205 rfl ?_
  refine q_iconst (v := 4) o_W_init_206 (by decide) ?_
  refine q_icmp_ge o_W_init_207 (fun c => absurd c (by decide)) (fun _ => ?_)
  refine q_aload_n o_W_init_210 rfl ?_
  refine n_getR (v := 24) (n := 154) hB110 o_W_init_211 f_W_69 rfl (by decide) (by decide +kernel) ?_
  refine q_iload_n o_W_init_214 rfl ?_
  refine n_newO (b := 4) (sb := 51) (N := 5) (n := 154) hB110 o_W_init_215 cn_W_55 rfl (Or.inr rfl) (fun σ111 hB111 => ?_)
  refine q_dup o_W_init_218 rfl ?_
  refine n_callI (b := 1) (sb := 3) (n := 155) (n' := 158) (a := 154) (As := []) (st := [.ref 154, .int 3, .ref 24]) hB111 o_W_init_219 k_W_57 rfl (Nat.le_of_ble_eq_true rfl) (Li_init_ok (d := d + 1) (a := 154) hB111 (by decide +kernel) rfl rfl rfl rfl) rfl (fun σ112 hB112 => ?_)
  refine n_aast5 (n := 158) (i := 3) hB112 o_W_init_222 rfl (by decide) rfl (by decide) rfl (by decide) (by decide) (by decide +kernel) (fun σ113 hB113 => ?_)
  refine q_aload_n o_W_init_223 rfl ?_
  refine n_getR (v := 25) (n := 158) hB113 o_W_init_224 f_W_72 rfl (by decide) (by decide +kernel) ?_
  refine q_iload_n o_W_init_227 rfl ?_
  refine n_newO (b := 0) (sb := 0) (N := 3) (n := 158) hB113 o_W_init_228 cn_W_48 rfl (Or.inr rfl) (fun σ114 hB114 => ?_)
  refine q_dup o_W_init_231 rfl ?_
  refine n_callI (b := 0) (sb := 0) (n := 159) (n' := 159) (a := 158) (As := []) (st := [.ref 158, .int 3, .ref 25]) hB114 o_W_init_232 k_W_50 rfl (Nat.le_of_ble_eq_true rfl) (Tl_init_ok (d := d + 1) (a := 158) hB114 (by decide +kernel) rfl) rfl (fun σ115 hB115 => ?_)
  refine n_aast6 (n := 159) (i := 3) hB115 o_W_init_235 rfl (by decide) rfl (by decide) rfl (by decide) (by decide) (by decide +kernel) (fun σ116 hB116 => ?_)
  refine n_inc (v := 4) (ls' := [some (.ref 0), some (.int 4)]) o_W_init_236 rfl (by decide) (Nat.le_of_ble_eq_true rfl) rfl ?_
  refine q_goto o_W_init_239 ?_
  refine q_iload_n o_W_init_205 rfl ?_
  refine q_iconst (v := 4) o_W_init_206 (by decide) ?_
  refine q_icmp_ge o_W_init_207 (fun _ => ?_) (fun c => absurd (by decide) c)
  exact q_vre o_W_init_242 rfl ⟨fun i e => (by cases e), rfl, hB116.sub (by decide +kernel)⟩
