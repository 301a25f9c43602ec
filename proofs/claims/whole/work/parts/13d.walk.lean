set_option maxRecDepth 20000 in
theorem v_W_feed_0 {G : q_G} {d : Nat} {σ : q_S} {Q : Option Value → q_S → Prop} {p0 : Int64} {p1 : Int64} {p2 : Int64}  (hs : q_Sh σ) (h : q_Call G d 0 0 X_Tp_addBytes [.ref 1, .long p0] σ (q_rv (fun σ2 => q_Call G d 0 0 X_Tp_addBytes [.ref 1, .long p1] σ2 (q_rv (fun σ5 => q_Call G d 0 0 X_Tp_addBytes [.ref 1, .long p2] σ5 (q_rv (fun σ8 => Q (some (.int (q_I σ8 1 1))) σ8))))))) : q_At G X_W_feed (d + 1) 0 0 0 [some (.ref 0), some (.long p0), none, some (.long p1), none, some (.long p2), none] [] σ Q := by
  refine q_aload_n o_W_feed_0 rfl ?_
  refine q2_getR hs o_W_feed_1 f_W_10 rfl (fz_0_0 hs) ?_
  refine q_lload_n o_W_feed_4 rfl ?_
  refine q2_callVv _ (a := 1) (As := [.long p0]) (st := []) hs o_W_feed_5 k_W_100 rfl rfl (Nat.le_of_ble_eq_true rfl) h (fun σ2 hs3 h1 => ?_)
  refine q_aload_n o_W_feed_8 rfl ?_
  refine q2_getR hs3 o_W_feed_9 f_W_10 rfl (fz_0_0 hs3) ?_
  refine q_lload_n o_W_feed_12 rfl ?_
  refine q2_callVv _ (a := 1) (As := [.long p1]) (st := []) hs3 o_W_feed_13 k_W_100 rfl rfl (Nat.le_of_ble_eq_true rfl) h1 (fun σ5 hs6 h4 => ?_)
  refine q_aload_n o_W_feed_16 rfl ?_
  refine q2_getR hs6 o_W_feed_17 f_W_10 rfl (fz_0_0 hs6) ?_
  refine q_lload o_W_feed_20 rfl ?_
  refine q2_callVv _ (a := 1) (As := [.long p2]) (st := []) hs6 o_W_feed_22 k_W_100 rfl rfl (Nat.le_of_ble_eq_true rfl) h4 (fun σ8 hs9 h7 => ?_)
  refine q_aload_n o_W_feed_25 rfl ?_
  refine q2_getR hs9 o_W_feed_26 f_W_10 rfl (fz_0_0 hs9) ?_
  refine q2_getI hs9 o_W_feed_29 f_W_104 rfl ?_
  exact q_ire o_W_feed_32 rfl h7

set_option maxRecDepth 20000 in
theorem v_W_town_0 {G : q_G} {d : Nat} {σ : q_S} {Q : Option Value → q_S → Prop}   (hs : q_Sh σ) (h : (∃ t2, q_R σ 0 13 = some t2 ∧ q_isTw t2 ∧ q_Call G d 0 0 X_Rd_readTown [.ref 4, .ref t2] σ (q_ri (fun x6 σ4 => ((¬ x6 = 0 → Q (some (.int x6)) (q_setI σ4 1 1 0)) ∧ (x6 = 0 → (∃ t11, q_R (q_setI σ4 1 1 0) 0 12 = some t11 ∧ q_isTw t11 ∧ (∃ t13, q_R (q_setI σ4 1 1 0) 0 13 = some t13 ∧ q_isTw t13 ∧ q_Call G d 0 0 X_W_startAnew [.ref 0] (q_setR (q_setR (q_setI σ4 1 1 0) 0 12 (some t13)) 0 13 (some t11)) (q_rv (fun σ15 => Q (some (.int x6)) σ15)))))))))) : q_At G X_W_town (d + 1) 0 0 0 [some (.ref 0), none, none] [] σ Q := by
  refine q_aload_n o_W_town_0 rfl ?_
  refine q2_getR hs o_W_town_1 f_W_30 rfl (fz_0_2 hs) ?_
  refine q_aload_n o_W_town_4 rfl ?_
  obtain ⟨t2, eh1, bh1, h1⟩ := h
  refine q2_getR hs o_W_town_5 f_W_87 rfl eh1 ?_
  refine q2_callVi _ (a := 4) (As := [.ref t2]) (st := []) hs o_W_town_8 k_W_108 rfl rfl (Nat.le_of_ble_eq_true rfl) h1 (fun x6 σ4 hs5 h3 => ?_)
  refine q2_istn (ls' := [some (.ref 0), some (.int x6), none]) o_W_town_11 (Nat.le_of_ble_eq_true rfl) rfl ?_
  refine q_aload_n o_W_town_12 rfl ?_
  refine q2_getR hs5 o_W_town_13 f_W_10 rfl (fz_0_0 hs5) ?_
  refine q_iconst (v := 0) o_W_town_16 (by decide) ?_
  refine q2_putI hs5 o_W_town_17 fp_W_104 rfl rfl rfl ?_
  refine q_iload_n o_W_town_20 rfl ?_
  refine q_if_ne o_W_town_21 (fun c7 => ?_) (fun c7 => ?_)
  · have h8 := h3.1 c7
    refine q_iload_n o_W_town_46 rfl ?_
    exact q_ire o_W_town_47 rfl h8
  · have h9 := h3.2 c7
    refine q_aload_n o_W_town_24 rfl ?_
    obtain ⟨t11, eh10, bh10, h10⟩ := h9
    refine q2_getR hs5 o_W_town_25 f_W_83 rfl eh10 ?_
    refine q2_astn (ls' := [some (.ref 0), some (.int x6), some (.ref t11)]) o_W_town_28 (Nat.le_of_ble_eq_true rfl) rfl ?_
    refine q_aload_n o_W_town_29 rfl ?_
    refine q_aload_n o_W_town_30 rfl ?_
    obtain ⟨t13, eh12, bh12, h12⟩ := h10
    refine q2_getR hs5 o_W_town_31 f_W_87 rfl eh12 ?_
    refine q2_putR hs5 o_W_town_34 fp_W_83 rfl (fun _ => rfl) (fun _ => rfl) ?_
    refine q_aload_n o_W_town_37 rfl ?_
    refine q_aload_n o_W_town_38 rfl ?_
    refine q2_putR (sh_land hs5) o_W_town_39 fp_W_87 rfl (fun _ => rfl) (fun _ => rfl) ?_
    refine q_aload_n o_W_town_42 rfl ?_
    refine q2_callVv _ (a := 0) (As := []) (st := []) (sh_spareLand (sh_land hs5)) o_W_town_43 k_W_112 rfl rfl (Nat.le_of_ble_eq_true rfl) h12 (fun σ15 hs16 h14 => ?_)
    refine q_iload_n o_W_town_46 rfl ?_
    exact q_ire o_W_town_47 rfl h14

set_option maxRecDepth 20000 in
theorem v_W_days_0 {G : q_G} {d : Nat} {σ : q_S} {Q : Option Value → q_S → Prop}   (hs : q_Sh σ) (h : (∃ t2, q_R σ 0 12 = some t2 ∧ q_isTw t2 ∧ (∃ t4, q_R σ 0 15 = some t4 ∧ q_isDy t4 ∧ q_Call G d 0 0 X_Rd_readDays [.ref 4, .ref t2, .ref t4] σ (q_ri (fun x8 σ6 => ((¬ x8 = 0 → Q (some (.int x8)) (q_setI σ6 1 1 0)) ∧ (x8 = 0 → (∃ t13, q_R (q_setI σ6 1 1 0) 0 14 = some t13 ∧ q_isDy t13 ∧ (∃ t15, q_R (q_setI σ6 1 1 0) 0 15 = some t15 ∧ q_isDy t15 ∧ Q (some (.int x8)) (q_setR (q_setR (q_setI σ6 1 1 0) 0 14 (some t15)) 0 15 (some t13))))))))))) : q_At G X_W_days (d + 1) 0 0 0 [some (.ref 0), none, none] [] σ Q := by
  refine q_aload_n o_W_days_0 rfl ?_
  refine q2_getR hs o_W_days_1 f_W_30 rfl (fz_0_2 hs) ?_
  refine q_aload_n o_W_days_4 rfl ?_
  obtain ⟨t2, eh1, bh1, h1⟩ := h
  refine q2_getR hs o_W_days_5 f_W_83 rfl eh1 ?_
  refine q_aload_n o_W_days_8 rfl ?_
  obtain ⟨t4, eh3, bh3, h3⟩ := h1
  refine q2_getR hs o_W_days_9 f_W_97 rfl eh3 ?_
  refine q2_callVi _ (a := 4) (As := [.ref t2, .ref t4]) (st := []) hs o_W_days_12 k_W_115 rfl rfl (Nat.le_of_ble_eq_true rfl) h3 (fun x8 σ6 hs7 h5 => ?_)
  refine q2_istn (ls' := [some (.ref 0), some (.int x8), none]) o_W_days_15 (Nat.le_of_ble_eq_true rfl) rfl ?_
  refine q_aload_n o_W_days_16 rfl ?_
  refine q2_getR hs7 o_W_days_17 f_W_10 rfl (fz_0_0 hs7) ?_
  refine q_iconst (v := 0) o_W_days_20 (by decide) ?_
  refine q2_putI hs7 o_W_days_21 fp_W_104 rfl rfl rfl ?_
  refine q_iload_n o_W_days_24 rfl ?_
  refine q_if_ne o_W_days_25 (fun c9 => ?_) (fun c9 => ?_)
  · have h10 := h5.1 c9
    refine q_iload_n o_W_days_46 rfl ?_
    exact q_ire o_W_days_47 rfl h10
  · have h11 := h5.2 c9
    refine q_aload_n o_W_days_28 rfl ?_
    obtain ⟨t13, eh12, bh12, h12⟩ := h11
    refine q2_getR hs7 o_W_days_29 f_W_93 rfl eh12 ?_
    refine q2_astn (ls' := [some (.ref 0), some (.int x8), some (.ref t13)]) o_W_days_32 (Nat.le_of_ble_eq_true rfl) rfl ?_
    refine q_aload_n o_W_days_33 rfl ?_
    refine q_aload_n o_W_days_34 rfl ?_
    obtain ⟨t15, eh14, bh14, h14⟩ := h12
    refine q2_getR hs7 o_W_days_35 f_W_97 rfl eh14 ?_
    refine q2_putR hs7 o_W_days_38 fp_W_93 rfl (fun _ => rfl) (fun _ => rfl) ?_
    refine q_aload_n o_W_days_41 rfl ?_
    refine q_aload_n o_W_days_42 rfl ?_
    refine q2_putR (sh_plan hs7) o_W_days_43 fp_W_97 rfl (fun _ => rfl) (fun _ => rfl) ?_
    refine q_iload_n o_W_days_46 rfl ?_
    exact q_ire o_W_days_47 rfl h14

set_option maxRecDepth 20000 in
theorem v_W_house_0 {G : q_G} {d : Nat} {σ : q_S} {Q : Option Value → q_S → Prop} {p0 : Int32}  (hs : q_Sh σ) (h : (∃ t2, q_R σ 0 12 = some t2 ∧ q_isTw t2 ∧ q_Call G d 0 0 X_Tw_familyIn [.ref t2, .ref 16, .int p0] σ (q_ri (fun x6 σ4 => Q (some (.int x6)) σ4)))) : q_At G X_W_house (d + 1) 0 0 0 [some (.ref 0), some (.int p0)] [] σ Q := by
  refine q_aload_n o_W_house_0 rfl ?_
  obtain ⟨t2, eh1, bh1, h1⟩ := h
  refine q2_getR hs o_W_house_1 f_W_83 rfl eh1 ?_
  refine q_aload_n o_W_house_4 rfl ?_
  refine q2_getR hs o_W_house_5 f_W_58 rfl (fz_0_6 hs) ?_
  refine q2_getR hs o_W_house_8 f_W_119 rfl (fz_15_0 hs) ?_
  refine q_iload_n o_W_house_11 rfl ?_
  refine q2_callVi _ (a := t2) (As := [.ref 16, .int p0]) (st := []) hs o_W_house_12 k_W_123 (kd_Tw_0 bh1) rfl (Nat.le_of_ble_eq_true rfl) h1 (fun x6 σ4 hs5 h3 => ?_)
  exact q_ire o_W_house_15 rfl h3

set_option maxRecDepth 20000 in
theorem v_W_wall_0 {G : q_G} {d : Nat} {σ : q_S} {Q : Option Value → q_S → Prop} {p0 : Int32} {p1 : Int32}  (hs : q_Sh σ) (h : q_Call G d 0 0 X_W_isHouse [.ref 0, .int p0] σ (q_ri (fun x4 σ2 => ((x4 = 0 → Q (some (.int (-1))) σ2) ∧ (¬ x4 = 0 → q_Call G d 0 0 X_W_isHouse [.ref 0, .int p1] σ2 (q_ri (fun x11 σ9 => ((¬ x11 = 0 → (∃ t15, q_R σ9 0 12 = some t15 ∧ q_isTw t15 ∧ (∃ k17, ((p0 * 6) + p1) = nI k17 ∧ k17 < 36 ∧ Q (some (.int (if (q_I σ9 (t15 + 7) k17) = 0 then ((-1) : Int32) else (q_I σ9 (t15 + 7) k17)))) σ9))) ∧ (x11 = 0 → Q (some (.int (-1))) σ9))))))))) : q_At G X_W_wall (d + 1) 0 0 0 [some (.ref 0), some (.int p0), some (.int p1), none] [] σ Q := by
  refine q_aload_n o_W_wall_0 rfl ?_
  refine q_iload_n o_W_wall_1 rfl ?_
  refine q2_callVi _ (a := 0) (As := [.int p0]) (st := []) hs o_W_wall_2 k_W_127 rfl rfl (Nat.le_of_ble_eq_true rfl) h (fun x4 σ2 hs3 h1 => ?_)
  refine q_if_eq o_W_wall_5 (fun c5 => ?_) (fun c5 => ?_)
  · have h6 := h1.1 c5
    refine q_iconst (v := (-1)) o_W_wall_16 (by decide) ?_
    exact q_ire o_W_wall_17 rfl h6
  · have h7 := h1.2 c5
    refine q_aload_n o_W_wall_8 rfl ?_
    refine q_iload_n o_W_wall_9 rfl ?_
    refine q2_callVi _ (a := 0) (As := [.int p1]) (st := []) hs3 o_W_wall_10 k_W_127 rfl rfl (Nat.le_of_ble_eq_true rfl) h7 (fun x11 σ9 hs10 h8 => ?_)
    refine q_if_ne o_W_wall_13 (fun c12 => ?_) (fun c12 => ?_)
    · have h13 := h8.1 c12
      refine q_aload_n o_W_wall_18 rfl ?_
      obtain ⟨t15, eh14, bh14, h14⟩ := h13
      refine q2_getR hs10 o_W_wall_19 f_W_83 rfl eh14 ?_
      refine q2_getR hs10 o_W_wall_22 f_W_131 (kd_Tw_0 bh14) (fz_Tw_6 hs10 bh14) ?_
      refine q_iload_n o_W_wall_25 rfl ?_
      refine q_bipush (v := 6) o_W_wall_26 (by decide) ?_
      refine q_imul o_W_wall_28 ?_
      refine q_iload_n o_W_wall_29 rfl ?_
      refine q_iadd o_W_wall_30 ?_
      obtain ⟨k17, eh16, bh16, h16⟩ := h14
      refine q2_iald hs10 o_W_wall_31 (kd_Tw_7 bh14) eh16 bh16 (by decide) ?_
      refine q2_istn (ls' := [some (.ref 0), some (.int p0), some (.int p1), some (.int (q_I σ9 (t15 + 7) k17))]) o_W_wall_32 (Nat.le_of_ble_eq_true rfl) rfl ?_
      refine q_iload_n o_W_wall_33 rfl ?_
      have hJ : ∀ vJ : Int32, vJ = (if (q_I σ9 (t15 + 7) k17) = 0 then ((-1) : Int32) else (q_I σ9 (t15 + 7) k17)) → q_At G X_W_wall (d + 1) 0 0 42 [some (.ref 0), some (.int p0), some (.int p1), some (.int (q_I σ9 (t15 + 7) k17))] [.int vJ] σ9 Q := by
        intro vJ eJ
        rw [eJ]
        clear eJ vJ
        exact q_ire o_W_wall_42 rfl h16
      refine q_if_ne o_W_wall_34 (fun c18 => ?_) (fun c18 => ?_)
      · refine q_iload_n o_W_wall_41 rfl ?_
        exact hJ _ (Eq.symm (if_neg c18))
      · refine q_iconst (v := (-1)) o_W_wall_37 (by decide) ?_
        refine q_goto o_W_wall_38 ?_
        exact hJ _ (Eq.symm (if_pos c18))
    · have h19 := h8.2 c12
      refine q_iconst (v := (-1)) o_W_wall_16 (by decide) ?_
      exact q_ire o_W_wall_17 rfl h19

set_option maxRecDepth 20000 in
theorem v_W_family_0 {G : q_G} {d : Nat} {σ : q_S} {Q : Option Value → q_S → Prop} {p0 : Int32} {p1 : Int32}  (hs : q_Sh σ) (h : q_Call G d 0 0 X_W_isFamily [.ref 0, .int p0] σ (q_ri (fun x4 σ2 => ((¬ x4 = 0 → (((p1.toInt < 0 ∨ 7 < p1.toInt) → Q (some (.int (-1))) σ2) ∧ ((p1.toInt = 0 → (∃ t11, q_R σ2 0 12 = some t11 ∧ q_isTw t11 ∧ (∃ k13, p0 = nI k13 ∧ k13 < 6 ∧ Q (some (.int (q_I σ2 (t11 + 3) k13))) σ2))) ∧ (p1.toInt = 1 → (∃ t16, q_R σ2 0 12 = some t16 ∧ q_isTw t16 ∧ q_Call G d 0 0 X_Tw_loudness [.ref t16, .int p0] σ2 (q_ri (fun x20 σ18 => Q (some (.int x20)) σ18)))) ∧ (p1.toInt = 2 → (∃ t23, q_R σ2 0 12 = some t23 ∧ q_isTw t23 ∧ q_Call G d 0 0 X_Tw_hearing [.ref t23, .int p0] σ2 (q_ri (fun x27 σ25 => Q (some (.int x27)) σ25)))) ∧ (p1.toInt = 3 → (∃ k30, p0 = nI k30 ∧ k30 < 6 ∧ Q (some (.int (q_I σ2 17 k30))) σ2)) ∧ (p1.toInt = 4 → (∃ k33, p0 = nI k33 ∧ k33 < 6 ∧ Q (some (.int (q_I σ2 16 k33))) σ2)) ∧ (p1.toInt = 5 → (∃ t36, q_R σ2 0 12 = some t36 ∧ q_isTw t36 ∧ q_Call G d 0 0 X_Tw_neighbourBits [.ref t36, .ref 16, .int p0] σ2 (q_ri (fun x40 σ38 => Q (some (.int x40)) σ38)))) ∧ (p1.toInt = 6 → (∃ t43, q_R σ2 0 12 = some t43 ∧ q_isTw t43 ∧ q_Call G d 0 0 X_Tw_feltBy [.ref t43, .ref 16, .int p0] σ2 (q_ri (fun x47 σ45 => Q (some (.int x47)) σ45)))) ∧ (p1.toInt = 7 → (∃ t50, q_R σ2 0 12 = some t50 ∧ q_isTw t50 ∧ q_Call G d 0 0 X_Tw_joyOf [.ref t50, .ref 16, .int p0] σ2 (q_ri (fun x54 σ52 => Q (some (.int (if x54 < 0 then (0 : Int32) else (1 : Int32)))) σ52))))))) ∧ (x4 = 0 → Q (some (.int (-1))) σ2))))) : q_At G X_W_family (d + 1) 0 0 0 [some (.ref 0), some (.int p0), some (.int p1)] [] σ Q := by
  refine q_aload_n o_W_family_0 rfl ?_
  refine q_iload_n o_W_family_1 rfl ?_
  refine q2_callVi _ (a := 0) (As := [.int p0]) (st := []) hs o_W_family_2 k_W_134 rfl rfl (Nat.le_of_ble_eq_true rfl) h (fun x4 σ2 hs3 h1 => ?_)
  refine q_if_ne o_W_family_5 (fun c5 => ?_) (fun c5 => ?_)
  · have h6 := h1.1 c5
    refine q_iload_n o_W_family_10 rfl ?_
    rcases q_sw 0 7 p1 with c0 | ⟨kk, c1, c2, c3⟩
    · have h7 := h6.1 c0
      refine q_tabOut (tgt := 160) o_W_family_11 c0 (by decide) ?_
      refine q_iconst (v := (-1)) o_W_family_160 (by decide) ?_
      exact q_ire o_W_family_161 rfl h7
    · have h8 := h6.2
      have hx : p1.toInt = 0 + (kk : Int) := c3
      have hkk : kk = 0 ∨ kk = 1 ∨ kk = 2 ∨ kk = 3 ∨ kk = 4 ∨ kk = 5 ∨ kk = 6 ∨ kk = 7 := by omega
      rcases hkk with rfl | rfl | rfl | rfl | rfl | rfl | rfl | rfl
      · have h9 := h8.1 (by simpa using hx)
        refine q_tabIn (tgt := 56) (off := 45) o_W_family_11 c1 c2 (by rw [show p1.toInt = 0 by simpa using hx]; rfl) (by decide) ?_
        refine q_aload_n o_W_family_56 rfl ?_
        obtain ⟨t11, eh10, bh10, h10⟩ := h9
        refine q2_getR hs3 o_W_family_57 f_W_83 rfl eh10 ?_
        refine q2_getR hs3 o_W_family_60 f_W_137 (kd_Tw_0 bh10) (fz_Tw_2 hs3 bh10) ?_
        refine q_iload_n o_W_family_63 rfl ?_
        obtain ⟨k13, eh12, bh12, h12⟩ := h10
        refine q2_iald hs3 o_W_family_64 (kd_Tw_3 bh10) eh12 bh12 (by decide) ?_
        exact q_ire o_W_family_65 rfl h12
      · have h14 := h8.2.1 (by simpa using hx)
        refine q_tabIn (tgt := 66) (off := 55) o_W_family_11 c1 c2 (by rw [show p1.toInt = 1 by simpa using hx]; rfl) (by decide) ?_
        refine q_aload_n o_W_family_66 rfl ?_
        obtain ⟨t16, eh15, bh15, h15⟩ := h14
        refine q2_getR hs3 o_W_family_67 f_W_83 rfl eh15 ?_
        refine q_iload_n o_W_family_70 rfl ?_
        refine q2_callVi _ (a := t16) (As := [.int p0]) (st := []) hs3 o_W_family_71 k_W_140 (kd_Tw_0 bh15) rfl (Nat.le_of_ble_eq_true rfl) h15 (fun x20 σ18 hs19 h17 => ?_)
        exact q_ire o_W_family_74 rfl h17
      · have h21 := h8.2.2.1 (by simpa using hx)
        refine q_tabIn (tgt := 75) (off := 64) o_W_family_11 c1 c2 (by rw [show p1.toInt = 2 by simpa using hx]; rfl) (by decide) ?_
        refine q_aload_n o_W_family_75 rfl ?_
        obtain ⟨t23, eh22, bh22, h22⟩ := h21
        refine q2_getR hs3 o_W_family_76 f_W_83 rfl eh22 ?_
        refine q_iload_n o_W_family_79 rfl ?_
        refine q2_callVi _ (a := t23) (As := [.int p0]) (st := []) hs3 o_W_family_80 k_W_144 (kd_Tw_0 bh22) rfl (Nat.le_of_ble_eq_true rfl) h22 (fun x27 σ25 hs26 h24 => ?_)
        exact q_ire o_W_family_83 rfl h24
      · have h28 := h8.2.2.2.1 (by simpa using hx)
        refine q_tabIn (tgt := 84) (off := 73) o_W_family_11 c1 c2 (by rw [show p1.toInt = 3 by simpa using hx]; rfl) (by decide) ?_
        refine q_aload_n o_W_family_84 rfl ?_
        refine q2_getR hs3 o_W_family_85 f_W_58 rfl (fz_0_6 hs3) ?_
        refine q2_getR hs3 o_W_family_88 f_W_147 rfl (fz_15_1 hs3) ?_
        refine q_iload_n o_W_family_91 rfl ?_
        obtain ⟨k30, eh29, bh29, h29⟩ := h28
        refine q2_iald hs3 o_W_family_92 rfl eh29 bh29 (by decide) ?_
        exact q_ire o_W_family_93 rfl h29
      · have h31 := h8.2.2.2.2.1 (by simpa using hx)
        refine q_tabIn (tgt := 94) (off := 83) o_W_family_11 c1 c2 (by rw [show p1.toInt = 4 by simpa using hx]; rfl) (by decide) ?_
        refine q_aload_n o_W_family_94 rfl ?_
        refine q2_getR hs3 o_W_family_95 f_W_58 rfl (fz_0_6 hs3) ?_
        refine q2_getR hs3 o_W_family_98 f_W_119 rfl (fz_15_0 hs3) ?_
        refine q_iload_n o_W_family_101 rfl ?_
        obtain ⟨k33, eh32, bh32, h32⟩ := h31
        refine q2_iald hs3 o_W_family_102 rfl eh32 bh32 (by decide) ?_
        exact q_ire o_W_family_103 rfl h32
      · have h34 := h8.2.2.2.2.2.1 (by simpa using hx)
        refine q_tabIn (tgt := 104) (off := 93) o_W_family_11 c1 c2 (by rw [show p1.toInt = 5 by simpa using hx]; rfl) (by decide) ?_
        refine q_aload_n o_W_family_104 rfl ?_
        obtain ⟨t36, eh35, bh35, h35⟩ := h34
        refine q2_getR hs3 o_W_family_105 f_W_83 rfl eh35 ?_
        refine q_aload_n o_W_family_108 rfl ?_
        refine q2_getR hs3 o_W_family_109 f_W_58 rfl (fz_0_6 hs3) ?_
        refine q2_getR hs3 o_W_family_112 f_W_119 rfl (fz_15_0 hs3) ?_
        refine q_iload_n o_W_family_115 rfl ?_
        refine q2_callVi _ (a := t36) (As := [.ref 16, .int p0]) (st := []) hs3 o_W_family_116 k_W_150 (kd_Tw_0 bh35) rfl (Nat.le_of_ble_eq_true rfl) h35 (fun x40 σ38 hs39 h37 => ?_)
        exact q_ire o_W_family_119 rfl h37
      · have h41 := h8.2.2.2.2.2.2.1 (by simpa using hx)
        refine q_tabIn (tgt := 120) (off := 109) o_W_family_11 c1 c2 (by rw [show p1.toInt = 6 by simpa using hx]; rfl) (by decide) ?_
        refine q_aload_n o_W_family_120 rfl ?_
        obtain ⟨t43, eh42, bh42, h42⟩ := h41
        refine q2_getR hs3 o_W_family_121 f_W_83 rfl eh42 ?_
        refine q_aload_n o_W_family_124 rfl ?_
        refine q2_getR hs3 o_W_family_125 f_W_58 rfl (fz_0_6 hs3) ?_
        refine q2_getR hs3 o_W_family_128 f_W_119 rfl (fz_15_0 hs3) ?_
        refine q_iload_n o_W_family_131 rfl ?_
        refine q2_callVi _ (a := t43) (As := [.ref 16, .int p0]) (st := []) hs3 o_W_family_132 k_W_153 (kd_Tw_0 bh42) rfl (Nat.le_of_ble_eq_true rfl) h42 (fun x47 σ45 hs46 h44 => ?_)
        exact q_ire o_W_family_135 rfl h44
      · have h48 := h8.2.2.2.2.2.2.2 (by simpa using hx)
        refine q_tabIn (tgt := 136) (off := 125) o_W_family_11 c1 c2 (by rw [show p1.toInt = 7 by simpa using hx]; rfl) (by decide) ?_
        refine q_aload_n o_W_family_136 rfl ?_
        obtain ⟨t50, eh49, bh49, h49⟩ := h48
        refine q2_getR hs3 o_W_family_137 f_W_83 rfl eh49 ?_
        refine q_aload_n o_W_family_140 rfl ?_
        refine q2_getR hs3 o_W_family_141 f_W_58 rfl (fz_0_6 hs3) ?_
        refine q2_getR hs3 o_W_family_144 f_W_119 rfl (fz_15_0 hs3) ?_
        refine q_iload_n o_W_family_147 rfl ?_
        refine q2_callVi _ (a := t50) (As := [.ref 16, .int p0]) (st := []) hs3 o_W_family_148 k_W_156 (kd_Tw_0 bh49) rfl (Nat.le_of_ble_eq_true rfl) h49 (fun x54 σ52 hs53 h51 => ?_)
        have hJ : ∀ vJ : Int32, vJ = (if x54 < 0 then (0 : Int32) else (1 : Int32)) → q_At G X_W_family (d + 1) 0 0 159 [some (.ref 0), some (.int p0), some (.int p1)] [.int vJ] σ52 Q := by
          intro vJ eJ
          rw [eJ]
          clear eJ vJ
          exact q_ire o_W_family_159 rfl h51
        refine q_if_lt o_W_family_151 (fun c55 => ?_) (fun c55 => ?_)
        · refine q_iconst (v := 0) o_W_family_158 (by decide) ?_
          exact hJ _ (Eq.symm (if_pos c55))
        · refine q_iconst (v := 1) o_W_family_154 (by decide) ?_
          refine q_goto o_W_family_155 ?_
          exact hJ _ (Eq.symm (if_neg c55))
  · have h56 := h1.2 c5
    refine q_iconst (v := (-1)) o_W_family_8 (by decide) ?_
    exact q_ire o_W_family_9 rfl h56

set_option maxRecDepth 20000 in
theorem v_W_joy_0 {G : q_G} {d : Nat} {σ : q_S} {Q : Option Value → q_S → Prop} {p0 : Int32}  (hs : q_Sh σ) (h : q_Call G d 0 0 X_W_isFamily [.ref 0, .int p0] σ (q_ri (fun x4 σ2 => ((¬ x4 = 0 → (∃ t8, q_R σ2 0 12 = some t8 ∧ q_isTw t8 ∧ q_Call G d 0 0 X_Tw_joyOf [.ref t8, .ref 16, .int p0] σ2 (q_ri (fun x12 σ10 => Q (some (.int x12)) σ10)))) ∧ (x4 = 0 → Q (some (.retAddr 159)) σ2))))) : q_At G X_W_joy (d + 1) 0 0 0 [some (.ref 0), some (.int p0)] [] σ Q := by
  refine q_aload_n o_W_joy_0 rfl ?_
  refine q_iload_n o_W_joy_1 rfl ?_
  refine q2_callVi _ (a := 0) (As := [.int p0]) (st := []) hs o_W_joy_2 k_W_134 rfl rfl (Nat.le_of_ble_eq_true rfl) h (fun x4 σ2 hs3 h1 => ?_)
  refine q_if_ne o_W_joy_5 (fun c5 => ?_) (fun c5 => ?_)
  · have h6 := h1.1 c5
    refine q_aload_n o_W_joy_16 rfl ?_
    obtain ⟨t8, eh7, bh7, h7⟩ := h6
    refine q2_getR hs3 o_W_joy_17 f_W_83 rfl eh7 ?_
    refine q_aload_n o_W_joy_20 rfl ?_
    refine q2_getR hs3 o_W_joy_21 f_W_58 rfl (fz_0_6 hs3) ?_
    refine q2_getR hs3 o_W_joy_24 f_W_119 rfl (fz_15_0 hs3) ?_
    refine q_iload_n o_W_joy_27 rfl ?_
    refine q2_callVi _ (a := t8) (As := [.ref 16, .int p0]) (st := []) hs3 o_W_joy_28 k_W_156 (kd_Tw_0 bh7) rfl (Nat.le_of_ble_eq_true rfl) h7 (fun x12 σ10 hs11 h9 => ?_)
    exact q_ire o_W_joy_31 rfl h9
  · have h13 := h1.2 c5
    exact q_thr o_W_joy_8 h13

set_option maxRecDepth 20000 in
theorem v_W_owes_0 {G : q_G} {d : Nat} {σ : q_S} {Q : Option Value → q_S → Prop} {p0 : Int32} {p1 : Int32}  (hs : q_Sh σ) (h : q_Call G d 0 0 X_W_areTwo [.ref 0, .int p0, .int p1] σ (q_ri (fun x4 σ2 => ((x4 = 0 → Q (some (.int (-1))) σ2) ∧ (¬ x4 = 0 → (∃ k9, ((p0 * 6) + p1) = nI k9 ∧ k9 < 36 ∧ Q (some (.int (q_I σ2 18 k9))) σ2)))))) : q_At G X_W_owes (d + 1) 0 0 0 [some (.ref 0), some (.int p0), some (.int p1)] [] σ Q := by
  refine q_aload_n o_W_owes_0 rfl ?_
  refine q_iload_n o_W_owes_1 rfl ?_
  refine q_iload_n o_W_owes_2 rfl ?_
  refine q2_callVi _ (a := 0) (As := [.int p0, .int p1]) (st := []) hs o_W_owes_3 k_W_162 rfl rfl (Nat.le_of_ble_eq_true rfl) h (fun x4 σ2 hs3 h1 => ?_)
  refine q_if_eq o_W_owes_6 (fun c5 => ?_) (fun c5 => ?_)
  · have h6 := h1.1 c5
    refine q_iconst (v := (-1)) o_W_owes_26 (by decide) ?_
    exact q_ire o_W_owes_27 rfl h6
  · have h7 := h1.2 c5
    refine q_aload_n o_W_owes_9 rfl ?_
    refine q2_getR hs3 o_W_owes_10 f_W_58 rfl (fz_0_6 hs3) ?_
    refine q2_getR hs3 o_W_owes_13 f_W_166 rfl (fz_15_2 hs3) ?_
    refine q_iload_n o_W_owes_16 rfl ?_
    refine q_bipush (v := 6) o_W_owes_17 (by decide) ?_
    refine q_imul o_W_owes_19 ?_
    refine q_iload_n o_W_owes_20 rfl ?_
    refine q_iadd o_W_owes_21 ?_
    obtain ⟨k9, eh8, bh8, h8⟩ := h7
    refine q2_iald hs3 o_W_owes_22 rfl eh8 bh8 (by decide) ?_
    refine q_goto o_W_owes_23 ?_
    exact q_ire o_W_owes_27 rfl h8

set_option maxRecDepth 20000 in
theorem v_W_draw_0 {G : q_G} {d : Nat} {σ : q_S} {Q : Option Value → q_S → Prop} {p0 : Int32}  (hs : q_Sh σ) (h : q_Call G d 0 0 X_W_isSeed [.int p0] σ (q_ri (fun x4 σ2 => ((¬ x4 = 0 → q_Call G d 0 0 X_W_remember [.ref 0] σ2 (q_rv (fun σ8 => (∃ t11, q_R (q_setL σ8 12 1 p0.toInt64) 0 12 = some t11 ∧ q_isTw t11 ∧ q_Call G d 0 0 X_Li_redraw [.ref 15, .ref t11, .ref 12] (q_setL σ8 12 1 p0.toInt64) (q_ri (fun x15 σ13 => Q (some (.int x15)) σ13)))))) ∧ (x4 = 0 → Q (some (.int (-1))) σ2))))) : q_At G X_W_draw (d + 1) 0 0 0 [some (.ref 0), some (.int p0)] [] σ Q := by
  refine q_iload_n o_W_draw_0 rfl ?_
  refine q2_callSi _ (As := [.int p0]) (st := []) hs o_W_draw_1 k_W_169 rfl (Nat.le_of_ble_eq_true rfl) h (fun x4 σ2 hs3 h1 => ?_)
  refine q_if_ne o_W_draw_4 (fun c5 => ?_) (fun c5 => ?_)
  · have h6 := h1.1 c5
    refine q_aload_n o_W_draw_9 rfl ?_
    refine q2_callVv _ (a := 0) (As := []) (st := []) hs3 o_W_draw_10 k_W_172 rfl rfl (Nat.le_of_ble_eq_true rfl) h6 (fun σ8 hs9 h7 => ?_)
    refine q_aload_n o_W_draw_13 rfl ?_
    refine q2_getR hs9 o_W_draw_14 f_W_44 rfl (fz_0_4 hs9) ?_
    refine q_iload_n o_W_draw_17 rfl ?_
    refine q_i2l o_W_draw_18 ?_
    refine q2_putL hs9 o_W_draw_19 fp_W_175 rfl rfl rfl ?_
    refine q_aload_n o_W_draw_22 rfl ?_
    refine q2_getR hs9 o_W_draw_23 f_W_58 rfl (fz_0_6 hs9) ?_
    refine q_aload_n o_W_draw_26 rfl ?_
    obtain ⟨t11, eh10, bh10, h10⟩ := h7
    refine q2_getR hs9 o_W_draw_27 f_W_83 rfl eh10 ?_
    refine q_aload_n o_W_draw_30 rfl ?_
    refine q2_getR hs9 o_W_draw_31 f_W_44 rfl (fz_0_4 hs9) ?_
    refine q2_callVi _ (a := 15) (As := [.ref t11, .ref 12]) (st := []) hs9 o_W_draw_34 k_W_179 rfl rfl (Nat.le_of_ble_eq_true rfl) h10 (fun x15 σ13 hs14 h12 => ?_)
    exact q_ire o_W_draw_37 rfl h12
  · have h16 := h1.2 c5
    refine q_iconst (v := (-1)) o_W_draw_7 (by decide) ?_
    exact q_ire o_W_draw_8 rfl h16

set_option maxRecDepth 20000 in
theorem v_W_swap_0 {G : q_G} {d : Nat} {σ : q_S} {Q : Option Value → q_S → Prop} {p0 : Int32} {p1 : Int32}  (hs : q_Sh σ) (h : q_Call G d 0 0 X_W_areTwo [.ref 0, .int p0, .int p1] σ (q_ri (fun x4 σ2 => ((¬ x4 = 0 → q_Call G d 0 0 X_W_remember [.ref 0] σ2 (q_rv (fun σ8 => q_Call G d 0 0 X_Li_changeHouses [.ref 15, .int p0, .int p1] σ8 (q_rv (fun σ11 => Q (some (.int 1)) σ11))))) ∧ (x4 = 0 → Q (some (.int 0)) σ2))))) : q_At G X_W_swap (d + 1) 0 0 0 [some (.ref 0), some (.int p0), some (.int p1)] [] σ Q := by
  refine q_aload_n o_W_swap_0 rfl ?_
  refine q_iload_n o_W_swap_1 rfl ?_
  refine q_iload_n o_W_swap_2 rfl ?_
  refine q2_callVi _ (a := 0) (As := [.int p0, .int p1]) (st := []) hs o_W_swap_3 k_W_162 rfl rfl (Nat.le_of_ble_eq_true rfl) h (fun x4 σ2 hs3 h1 => ?_)
  refine q_if_ne o_W_swap_6 (fun c5 => ?_) (fun c5 => ?_)
  · have h6 := h1.1 c5
    refine q_aload_n o_W_swap_11 rfl ?_
    refine q2_callVv _ (a := 0) (As := []) (st := []) hs3 o_W_swap_12 k_W_172 rfl rfl (Nat.le_of_ble_eq_true rfl) h6 (fun σ8 hs9 h7 => ?_)
    refine q_aload_n o_W_swap_15 rfl ?_
    refine q2_getR hs9 o_W_swap_16 f_W_58 rfl (fz_0_6 hs9) ?_
    refine q_iload_n o_W_swap_19 rfl ?_
    refine q_iload_n o_W_swap_20 rfl ?_
    refine q2_callVv _ (a := 15) (As := [.int p0, .int p1]) (st := []) hs9 o_W_swap_21 k_W_183 rfl rfl (Nat.le_of_ble_eq_true rfl) h7 (fun σ11 hs12 h10 => ?_)
    refine q_iconst (v := 1) o_W_swap_24 (by decide) ?_
    exact q_zre o_W_swap_25 rfl rfl h10
  · have h13 := h1.2 c5
    refine q_iconst (v := 0) o_W_swap_9 (by decide) ?_
    exact q_zre o_W_swap_10 rfl rfl h13

set_option maxRecDepth 20000 in
theorem v_W_lend_0 {G : q_G} {d : Nat} {σ : q_S} {Q : Option Value → q_S → Prop} {p0 : Int32} {p1 : Int32} {p2 : Int32}  (hs : q_Sh σ) (h : q_Call G d 0 0 X_W_areTwo [.ref 0, .int p0, .int p1] σ (q_ri (fun x4 σ2 => ((x4 = 0 → Q (some (.int 0)) σ2) ∧ (¬ x4 = 0 → q_Call G d 0 0 X_W_isSum [.int p2] σ2 (q_ri (fun x11 σ9 => ((x11 = 0 → Q (some (.int 0)) σ9) ∧ (¬ x11 = 0 → (∃ t16, q_R σ9 0 12 = some t16 ∧ q_isTw t16 ∧ q_Call G d 0 0 X_Li_canLend [.ref 15, .ref t16, .int p0, .int p1, .int p2] σ9 (q_ri (fun x20 σ18 => ((¬ x20 = 0 → q_Call G d 0 0 X_W_remember [.ref 0] σ18 (q_rv (fun σ24 => q_Call G d 0 0 X_Li_giveLoan [.ref 15, .int p0, .int p1, .int p2] σ24 (q_rv (fun σ27 => Q (some (.int 1)) σ27))))) ∧ (x20 = 0 → Q (some (.int 0)) σ18)))))))))))))) : q_At G X_W_lend (d + 1) 0 0 0 [some (.ref 0), some (.int p0), some (.int p1), some (.int p2)] [] σ Q := by
  refine q_aload_n o_W_lend_0 rfl ?_
  refine q_iload_n o_W_lend_1 rfl ?_
  refine q_iload_n o_W_lend_2 rfl ?_
  refine q2_callVi _ (a := 0) (As := [.int p0, .int p1]) (st := []) hs o_W_lend_3 k_W_162 rfl rfl (Nat.le_of_ble_eq_true rfl) h (fun x4 σ2 hs3 h1 => ?_)
  refine q_if_eq o_W_lend_6 (fun c5 => ?_) (fun c5 => ?_)
  · have h6 := h1.1 c5
    refine q_iconst (v := 0) o_W_lend_33 (by decide) ?_
    exact q_zre o_W_lend_34 rfl rfl h6
  · have h7 := h1.2 c5
    refine q_iload_n o_W_lend_9 rfl ?_
    refine q2_callSi _ (As := [.int p2]) (st := []) hs3 o_W_lend_10 k_W_187 rfl (Nat.le_of_ble_eq_true rfl) h7 (fun x11 σ9 hs10 h8 => ?_)
    refine q_if_eq o_W_lend_13 (fun c12 => ?_) (fun c12 => ?_)
    · have h13 := h8.1 c12
      refine q_iconst (v := 0) o_W_lend_33 (by decide) ?_
      exact q_zre o_W_lend_34 rfl rfl h13
    · have h14 := h8.2 c12
      refine q_aload_n o_W_lend_16 rfl ?_
      refine q2_getR hs10 o_W_lend_17 f_W_58 rfl (fz_0_6 hs10) ?_
      refine q_aload_n o_W_lend_20 rfl ?_
      obtain ⟨t16, eh15, bh15, h15⟩ := h14
      refine q2_getR hs10 o_W_lend_21 f_W_83 rfl eh15 ?_
      refine q_iload_n o_W_lend_24 rfl ?_
      refine q_iload_n o_W_lend_25 rfl ?_
      refine q_iload_n o_W_lend_26 rfl ?_
      refine q2_callVi _ (a := 15) (As := [.ref t16, .int p0, .int p1, .int p2]) (st := []) hs10 o_W_lend_27 k_W_190 rfl rfl (Nat.le_of_ble_eq_true rfl) h15 (fun x20 σ18 hs19 h17 => ?_)
      refine q_if_ne o_W_lend_30 (fun c21 => ?_) (fun c21 => ?_)
      · have h22 := h17.1 c21
        refine q_aload_n o_W_lend_35 rfl ?_
        refine q2_callVv _ (a := 0) (As := []) (st := []) hs19 o_W_lend_36 k_W_172 rfl rfl (Nat.le_of_ble_eq_true rfl) h22 (fun σ24 hs25 h23 => ?_)
        refine q_aload_n o_W_lend_39 rfl ?_
        refine q2_getR hs25 o_W_lend_40 f_W_58 rfl (fz_0_6 hs25) ?_
        refine q_iload_n o_W_lend_43 rfl ?_
        refine q_iload_n o_W_lend_44 rfl ?_
        refine q_iload_n o_W_lend_45 rfl ?_
        refine q2_callVv _ (a := 15) (As := [.int p0, .int p1, .int p2]) (st := []) hs25 o_W_lend_46 k_W_194 rfl rfl (Nat.le_of_ble_eq_true rfl) h23 (fun σ27 hs28 h26 => ?_)
        refine q_iconst (v := 1) o_W_lend_49 (by decide) ?_
        exact q_zre o_W_lend_50 rfl rfl h26
      · have h29 := h17.2 c21
        refine q_iconst (v := 0) o_W_lend_33 (by decide) ?_
        exact q_zre o_W_lend_34 rfl rfl h29

set_option maxRecDepth 20000 in
theorem v_W_pay_0 {G : q_G} {d : Nat} {σ : q_S} {Q : Option Value → q_S → Prop} {p0 : Int32} {p1 : Int32} {p2 : Int32}  (hs : q_Sh σ) (h : q_Call G d 0 0 X_W_areTwo [.ref 0, .int p0, .int p1] σ (q_ri (fun x4 σ2 => ((x4 = 0 → Q (some (.int 0)) σ2) ∧ (¬ x4 = 0 → q_Call G d 0 0 X_W_isSum [.int p2] σ2 (q_ri (fun x11 σ9 => ((x11 = 0 → Q (some (.int 0)) σ9) ∧ (¬ x11 = 0 → q_Call G d 0 0 X_Li_canPay [.ref 15, .int p0, .int p1, .int p2] σ9 (q_ri (fun x18 σ16 => ((¬ x18 = 0 → q_Call G d 0 0 X_W_remember [.ref 0] σ16 (q_rv (fun σ22 => q_Call G d 0 0 X_Li_payBack [.ref 15, .int p0, .int p1, .int p2] σ22 (q_rv (fun σ25 => Q (some (.int 1)) σ25))))) ∧ (x18 = 0 → Q (some (.int 0)) σ16))))))))))))) : q_At G X_W_pay (d + 1) 0 0 0 [some (.ref 0), some (.int p0), some (.int p1), some (.int p2)] [] σ Q := by
  refine q_aload_n o_W_pay_0 rfl ?_
  refine q_iload_n o_W_pay_1 rfl ?_
  refine q_iload_n o_W_pay_2 rfl ?_
  refine q2_callVi _ (a := 0) (As := [.int p0, .int p1]) (st := []) hs o_W_pay_3 k_W_162 rfl rfl (Nat.le_of_ble_eq_true rfl) h (fun x4 σ2 hs3 h1 => ?_)
  refine q_if_eq o_W_pay_6 (fun c5 => ?_) (fun c5 => ?_)
  · have h6 := h1.1 c5
    refine q_iconst (v := 0) o_W_pay_29 (by decide) ?_
    exact q_zre o_W_pay_30 rfl rfl h6
  · have h7 := h1.2 c5
    refine q_iload_n o_W_pay_9 rfl ?_
    refine q2_callSi _ (As := [.int p2]) (st := []) hs3 o_W_pay_10 k_W_187 rfl (Nat.le_of_ble_eq_true rfl) h7 (fun x11 σ9 hs10 h8 => ?_)
    refine q_if_eq o_W_pay_13 (fun c12 => ?_) (fun c12 => ?_)
    · have h13 := h8.1 c12
      refine q_iconst (v := 0) o_W_pay_29 (by decide) ?_
      exact q_zre o_W_pay_30 rfl rfl h13
    · have h14 := h8.2 c12
      refine q_aload_n o_W_pay_16 rfl ?_
      refine q2_getR hs10 o_W_pay_17 f_W_58 rfl (fz_0_6 hs10) ?_
      refine q_iload_n o_W_pay_20 rfl ?_
      refine q_iload_n o_W_pay_21 rfl ?_
      refine q_iload_n o_W_pay_22 rfl ?_
      refine q2_callVi _ (a := 15) (As := [.int p0, .int p1, .int p2]) (st := []) hs10 o_W_pay_23 k_W_198 rfl rfl (Nat.le_of_ble_eq_true rfl) h14 (fun x18 σ16 hs17 h15 => ?_)
      refine q_if_ne o_W_pay_26 (fun c19 => ?_) (fun c19 => ?_)
      · have h20 := h15.1 c19
        refine q_aload_n o_W_pay_31 rfl ?_
        refine q2_callVv _ (a := 0) (As := []) (st := []) hs17 o_W_pay_32 k_W_172 rfl rfl (Nat.le_of_ble_eq_true rfl) h20 (fun σ22 hs23 h21 => ?_)
        refine q_aload_n o_W_pay_35 rfl ?_
        refine q2_getR hs23 o_W_pay_36 f_W_58 rfl (fz_0_6 hs23) ?_
        refine q_iload_n o_W_pay_39 rfl ?_
        refine q_iload_n o_W_pay_40 rfl ?_
        refine q_iload_n o_W_pay_41 rfl ?_
        refine q2_callVv _ (a := 15) (As := [.int p0, .int p1, .int p2]) (st := []) hs23 o_W_pay_42 k_W_202 rfl rfl (Nat.le_of_ble_eq_true rfl) h21 (fun σ25 hs26 h24 => ?_)
        refine q_iconst (v := 1) o_W_pay_45 (by decide) ?_
        exact q_zre o_W_pay_46 rfl rfl h24
      · have h27 := h15.2 c19
        refine q_iconst (v := 0) o_W_pay_29 (by decide) ?_
        exact q_zre o_W_pay_30 rfl rfl h27

set_option maxRecDepth 20000 in
theorem v_W_undo_0 {G : q_G} {d : Nat} {σ : q_S} {Q : Option Value → q_S → Prop}   (hs : q_Sh σ) (h : ((1 ≤ (q_I σ 0 17) → (∃ k4, (q_I (q_setI (q_setI σ 0 17 ((q_I σ 0 17) - 1)) 0 16 ((((q_I (q_setI σ 0 17 ((q_I σ 0 17) - 1)) 0 16) + 16) - 1) - (((q_I (q_setI σ 0 17 ((q_I σ 0 17) - 1)) 0 16) + 16) - 1) / 16 * 16)) 0 16) = nI k4 ∧ k4 < 16 ∧ q_Call G d 0 0 X_Li_become [.ref 15, .ref (75 + 4 * k4)] (q_setI (q_setI σ 0 17 ((q_I σ 0 17) - 1)) 0 16 ((((q_I (q_setI σ 0 17 ((q_I σ 0 17) - 1)) 0 16) + 16) - 1) - (((q_I (q_setI σ 0 17 ((q_I σ 0 17) - 1)) 0 16) + 16) - 1) / 16 * 16)) (q_rv (fun σ6 => Q (some (.int 1)) σ6)))) ∧ (¬ 1 ≤ (q_I σ 0 17) → Q (some (.int 0)) σ))) : q_At G X_W_undo (d + 1) 0 0 0 [some (.ref 0)] [] σ Q := by
  refine q_aload_n o_W_undo_0 rfl ?_
  refine q2_getI hs o_W_undo_1 f_W_205 rfl ?_
  refine q_iconst (v := 1) o_W_undo_4 (by decide) ?_
  refine q_icmp_ge o_W_undo_5 (fun c1 => ?_) (fun c1 => ?_)
  · have h2 := h.1 c1
    refine q_aload_n o_W_undo_10 rfl ?_
    refine q_dup o_W_undo_11 rfl ?_
    refine q2_getI hs o_W_undo_12 f_W_205 rfl ?_
    refine q_iconst (v := 1) o_W_undo_15 (by decide) ?_
    refine q_isub o_W_undo_16 ?_
    refine q2_putI hs o_W_undo_17 fp_W_205 rfl rfl rfl ?_
    refine q_aload_n o_W_undo_20 rfl ?_
    refine q_aload_n o_W_undo_21 rfl ?_
    refine q2_getI hs o_W_undo_22 f_W_208 rfl ?_
    refine q_bipush (v := 16) o_W_undo_25 (by decide) ?_
    refine q_iadd o_W_undo_27 ?_
    refine q_iconst (v := 1) o_W_undo_28 (by decide) ?_
    refine q_isub o_W_undo_29 ?_
    refine q_bipush (v := 16) o_W_undo_30 (by decide) ?_
    refine q_irem o_W_undo_32 (by decide) ?_
    refine q2_putI hs o_W_undo_33 fp_W_208 rfl rfl rfl ?_
    refine q_aload_n o_W_undo_36 rfl ?_
    refine q2_getR hs o_W_undo_37 f_W_58 rfl (fz_0_6 hs) ?_
    refine q_aload_n o_W_undo_40 rfl ?_
    refine q2_getR hs o_W_undo_41 f_W_65 rfl (fz_0_8 hs) ?_
    refine q_aload_n o_W_undo_44 rfl ?_
    refine q2_getI hs o_W_undo_45 f_W_208 rfl ?_
    obtain ⟨k4, eh3, bh3, h3⟩ := h2
    refine q2_ald5 hs o_W_undo_48 rfl eh3 bh3 (by decide) (fz_at_23 hs bh3) ?_
    refine q2_callVv _ (a := 15) (As := [.ref (75 + 4 * k4)]) (st := []) hs o_W_undo_49 k_W_211 rfl rfl (Nat.le_of_ble_eq_true rfl) h3 (fun σ6 hs7 h5 => ?_)
    refine q_iconst (v := 1) o_W_undo_52 (by decide) ?_
    exact q_zre o_W_undo_53 rfl rfl h5
  · have h8 := h.2 c1
    refine q_iconst (v := 0) o_W_undo_8 (by decide) ?_
    exact q_zre o_W_undo_9 rfl rfl h8

set_option maxRecDepth 20000 in
theorem v_W_judged_0 {G : q_G} {d : Nat} {σ : q_S} {Q : Option Value → q_S → Prop} {p0 : Int32}  (hs : q_Sh σ) (h : ((p0 < 0 → Q (some (.int (-2))) σ) ∧ (¬ p0 < 0 → ((p0 ≤ 2 → (∃ t7, q_R σ 0 12 = some t7 ∧ q_isTw t7 ∧ q_Call G d 0 0 X_Li_begin [.ref 19, .ref t7] σ (q_rv (fun σ9 => q_At G X_W_judged (d + 1) 0 0 30 [some (.ref 0), some (.int p0), some (.int (-1)), some (.int (-1)), some (.int 0)] [] σ9 Q)))) ∧ (¬ p0 ≤ 2 → Q (some (.int (-2))) σ))))) : q_At G X_W_judged (d + 1) 0 0 0 [some (.ref 0), some (.int p0), none, none, none] [] σ Q := by
  refine q_iload_n o_W_judged_0 rfl ?_
  refine q_if_lt o_W_judged_1 (fun c1 => ?_) (fun c1 => ?_)
  · have h2 := h.1 c1
    refine q_bipush (v := (-2)) o_W_judged_9 (by decide) ?_
    exact q_ire o_W_judged_11 rfl h2
  · have h3 := h.2 c1
    refine q_iload_n o_W_judged_4 rfl ?_
    refine q_iconst (v := 2) o_W_judged_5 (by decide) ?_
    refine q_icmp_le o_W_judged_6 (fun c4 => ?_) (fun c4 => ?_)
    · have h5 := h3.1 c4
      refine q_aload_n o_W_judged_12 rfl ?_
      refine q2_getR hs o_W_judged_13 f_W_62 rfl (fz_0_7 hs) ?_
      refine q_aload_n o_W_judged_16 rfl ?_
      obtain ⟨t7, eh6, bh6, h6⟩ := h5
      refine q2_getR hs o_W_judged_17 f_W_83 rfl eh6 ?_
      refine q2_callVv _ (a := 19) (As := [.ref t7]) (st := []) hs o_W_judged_20 k_W_215 rfl rfl (Nat.le_of_ble_eq_true rfl) h6 (fun σ9 hs10 h8 => ?_)
      refine q_iconst (v := (-1)) o_W_judged_23 (by decide) ?_
      refine q2_istn (ls' := [some (.ref 0), some (.int p0), some (.int (-1)), none, none]) o_W_judged_24 (Nat.le_of_ble_eq_true rfl) rfl ?_
      refine q_iconst (v := (-1)) o_W_judged_25 (by decide) ?_
      refine q2_istn (ls' := [some (.ref 0), some (.int p0), some (.int (-1)), some (.int (-1)), none]) o_W_judged_26 (Nat.le_of_ble_eq_true rfl) rfl ?_
      refine q_iconst (v := 0) o_W_judged_27 (by decide) ?_
      refine q2_ist (ls' := [some (.ref 0), some (.int p0), some (.int (-1)), some (.int (-1)), some (.int 0)]) o_W_judged_28 (Nat.le_of_ble_eq_true rfl) rfl ?_
      exact h8
    · have h11 := h3.2 c4
      refine q_bipush (v := (-2)) o_W_judged_9 (by decide) ?_
      exact q_ire o_W_judged_11 rfl h11

set_option maxRecDepth 20000 in
theorem v_W_judged_30 {G : q_G} {d : Nat} {σ : q_S} {Q : Option Value → q_S → Prop} {p0 : Int32} {l2 : Int32} {l3 : Int32} {l4 : Int32}  (hs : q_Sh σ) (h : (∃ t2, q_R σ 0 14 = some t2 ∧ q_isDy t2 ∧ (((q_I σ t2 4) ≤ l4 → Q (some (.int (if p0 = 0 then l2 else (if p0 = 1 then l3 else (q_I σ 19 4))))) σ) ∧ (¬ (q_I σ t2 4) ≤ l4 → (∃ t9, q_R σ 0 12 = some t9 ∧ q_isTw t9 ∧ q_Call G d 0 0 X_Dy_carryOut [.ref t2, .int l4, .ref 19, .ref t9, .ref 12] σ (q_ri (fun x13 σ11 => ((¬ x13 = 0 → ((¬ l3 = (-1) → q_At G X_W_judged (d + 1) 0 0 30 [some (.ref 0), some (.int p0), some (.int l2), some (.int l3), some (.int (l4 + 1))] [] σ11 Q) ∧ (l3 = (-1) → (∃ t20, q_R σ11 0 12 = some t20 ∧ q_isTw t20 ∧ q_Call G d 0 0 X_Tw_pairsOf [.ref t20, .ref 20] σ11 (q_rl (fun x24 σ22 => q_Call G d 0 0 X_Tw_brokenBy [.ref t20, .long x24] σ22 (q_ri (fun x28 σ26 => ((x28 = 0 → q_At G X_W_judged (d + 1) 0 0 30 [some (.ref 0), some (.int p0), some (.int l2), some (.int l3), some (.int (l4 + 1))] [] σ26 Q) ∧ (¬ x28 = 0 → q_At G X_W_judged (d + 1) 0 0 30 [some (.ref 0), some (.int p0), some (.int l2), some (.int l4), some (.int (l4 + 1))] [] σ26 Q)))))))))) ∧ (x13 = 0 → ((¬ l2 = (-1) → ((¬ l3 = (-1) → q_At G X_W_judged (d + 1) 0 0 30 [some (.ref 0), some (.int p0), some (.int l2), some (.int l3), some (.int (l4 + 1))] [] σ11 Q) ∧ (l3 = (-1) → (∃ t39, q_R σ11 0 12 = some t39 ∧ q_isTw t39 ∧ q_Call G d 0 0 X_Tw_pairsOf [.ref t39, .ref 20] σ11 (q_rl (fun x43 σ41 => q_Call G d 0 0 X_Tw_brokenBy [.ref t39, .long x43] σ41 (q_ri (fun x47 σ45 => ((x47 = 0 → q_At G X_W_judged (d + 1) 0 0 30 [some (.ref 0), some (.int p0), some (.int l2), some (.int l3), some (.int (l4 + 1))] [] σ45 Q) ∧ (¬ x47 = 0 → q_At G X_W_judged (d + 1) 0 0 30 [some (.ref 0), some (.int p0), some (.int l2), some (.int l4), some (.int (l4 + 1))] [] σ45 Q)))))))))) ∧ (l2 = (-1) → ((¬ l3 = (-1) → q_At G X_W_judged (d + 1) 0 0 30 [some (.ref 0), some (.int p0), some (.int l4), some (.int l3), some (.int (l4 + 1))] [] σ11 Q) ∧ (l3 = (-1) → (∃ t56, q_R σ11 0 12 = some t56 ∧ q_isTw t56 ∧ q_Call G d 0 0 X_Tw_pairsOf [.ref t56, .ref 20] σ11 (q_rl (fun x60 σ58 => q_Call G d 0 0 X_Tw_brokenBy [.ref t56, .long x60] σ58 (q_ri (fun x64 σ62 => ((x64 = 0 → q_At G X_W_judged (d + 1) 0 0 30 [some (.ref 0), some (.int p0), some (.int l4), some (.int l3), some (.int (l4 + 1))] [] σ62 Q) ∧ (¬ x64 = 0 → q_At G X_W_judged (d + 1) 0 0 30 [some (.ref 0), some (.int p0), some (.int l4), some (.int l4), some (.int (l4 + 1))] [] σ62 Q)))))))))))))))))))) : q_At G X_W_judged (d + 1) 0 0 30 [some (.ref 0), some (.int p0), some (.int l2), some (.int l3), some (.int l4)] [] σ Q := by
  refine q_iload o_W_judged_30 rfl ?_
  refine q_aload_n o_W_judged_32 rfl ?_
  obtain ⟨t2, eh1, bh1, h1⟩ := h
  refine q2_getR hs o_W_judged_33 f_W_93 rfl eh1 ?_
  refine q2_getI hs o_W_judged_36 f_W_219 (kd_Dy_0 bh1) ?_
  refine q_icmp_ge o_W_judged_39 (fun c3 => ?_) (fun c3 => ?_)
  · have h4 := h1.1 c3
    refine q_iload_n o_W_judged_112 rfl ?_
    have hJ : ∀ vJ : Int32, vJ = (if p0 = 0 then l2 else (if p0 = 1 then l3 else (q_I σ 19 4))) → q_At G X_W_judged (d + 1) 0 0 136 [some (.ref 0), some (.int p0), some (.int l2), some (.int l3), some (.int l4)] [.int vJ] σ Q := by
      intro vJ eJ
      rw [eJ]
      clear eJ vJ
      exact q_ire o_W_judged_136 rfl h4
    refine q_if_ne o_W_judged_113 (fun c5 => ?_) (fun c5 => ?_)
    · refine q_iload_n o_W_judged_120 rfl ?_
      refine q_iconst (v := 1) o_W_judged_121 (by decide) ?_
      refine q_icmp_ne o_W_judged_122 (fun c6 => ?_) (fun c6 => ?_)
      · refine q_aload_n o_W_judged_129 rfl ?_
        refine q2_getR hs o_W_judged_130 f_W_62 rfl (fz_0_7 hs) ?_
        refine q2_getI hs o_W_judged_133 f_W_234 rfl ?_
        exact hJ _ (Eq.symm ((if_neg c5).trans (if_neg c6)))
      · refine q_iload_n o_W_judged_125 rfl ?_
        refine q_goto o_W_judged_126 ?_
        exact hJ _ (Eq.symm ((if_neg c5).trans (if_pos c6)))
    · refine q_iload_n o_W_judged_116 rfl ?_
      refine q_goto o_W_judged_117 ?_
      exact hJ _ (Eq.symm (if_pos c5))
  · have h7 := h1.2 c3
    refine q_aload_n o_W_judged_42 rfl ?_
    refine q2_getR hs o_W_judged_43 f_W_93 rfl eh1 ?_
    refine q_iload o_W_judged_46 rfl ?_
    refine q_aload_n o_W_judged_48 rfl ?_
    refine q2_getR hs o_W_judged_49 f_W_62 rfl (fz_0_7 hs) ?_
    refine q_aload_n o_W_judged_52 rfl ?_
    obtain ⟨t9, eh8, bh8, h8⟩ := h7
    refine q2_getR hs o_W_judged_53 f_W_83 rfl eh8 ?_
    refine q_aload_n o_W_judged_56 rfl ?_
    refine q2_getR hs o_W_judged_57 f_W_44 rfl (fz_0_4 hs) ?_
    refine q2_callVi _ (a := t2) (As := [.int l4, .ref 19, .ref t9, .ref 12]) (st := []) hs o_W_judged_60 k_W_222 (kd_Dy_0 bh1) rfl (Nat.le_of_ble_eq_true rfl) h8 (fun x13 σ11 hs12 h10 => ?_)
    refine q_if_ne o_W_judged_63 (fun c14 => ?_) (fun c14 => ?_)
    · have h15 := h10.1 c14
      refine q_iload_n o_W_judged_74 rfl ?_
      refine q_iconst (v := (-1)) o_W_judged_75 (by decide) ?_
      refine q_icmp_ne o_W_judged_76 (fun c16 => ?_) (fun c16 => ?_)
      · have h17 := h15.1 c16
        refine q2_inc (v := (l4 + 1)) (ls' := [some (.ref 0), some (.int p0), some (.int l2), some (.int l3), some (.int (l4 + 1))]) o_W_judged_106 rfl rfl (Nat.le_of_ble_eq_true rfl) rfl ?_
        refine q_goto o_W_judged_109 ?_
        exact h17
      · have h18 := h15.2 c16
        refine q_aload_n o_W_judged_79 rfl ?_
        obtain ⟨t20, eh19, bh19, h19⟩ := h18
        refine q2_getR hs12 o_W_judged_80 f_W_83 rfl eh19 ?_
        refine q_aload_n o_W_judged_83 rfl ?_
        refine q2_getR hs12 o_W_judged_84 f_W_83 rfl eh19 ?_
        refine q_aload_n o_W_judged_87 rfl ?_
        refine q2_getR hs12 o_W_judged_88 f_W_62 rfl (fz_0_7 hs12) ?_
        refine q2_getR hs12 o_W_judged_91 f_W_119 rfl (fz_19_0 hs12) ?_
        refine q2_callVl _ (a := t20) (As := [.ref 20]) (st := [.ref t20]) hs12 o_W_judged_94 k_W_226 (kd_Tw_0 bh19) rfl (Nat.le_of_ble_eq_true rfl) h19 (fun x24 σ22 hs23 h21 => ?_)
        refine q2_callVi _ (a := t20) (As := [.long x24]) (st := []) hs23 o_W_judged_97 k_W_230 (kd_Tw_0 bh19) rfl (Nat.le_of_ble_eq_true rfl) h21 (fun x28 σ26 hs27 h25 => ?_)
        refine q_if_eq o_W_judged_100 (fun c29 => ?_) (fun c29 => ?_)
        · have h30 := h25.1 c29
          refine q2_inc (v := (l4 + 1)) (ls' := [some (.ref 0), some (.int p0), some (.int l2), some (.int l3), some (.int (l4 + 1))]) o_W_judged_106 rfl rfl (Nat.le_of_ble_eq_true rfl) rfl ?_
          refine q_goto o_W_judged_109 ?_
          exact h30
        · have h31 := h25.2 c29
          refine q_iload o_W_judged_103 rfl ?_
          refine q2_istn (ls' := [some (.ref 0), some (.int p0), some (.int l2), some (.int l4), some (.int l4)]) o_W_judged_105 (Nat.le_of_ble_eq_true rfl) rfl ?_
          refine q2_inc (v := (l4 + 1)) (ls' := [some (.ref 0), some (.int p0), some (.int l2), some (.int l4), some (.int (l4 + 1))]) o_W_judged_106 rfl rfl (Nat.le_of_ble_eq_true rfl) rfl ?_
          refine q_goto o_W_judged_109 ?_
          exact h31
    · have h32 := h10.2 c14
      refine q_iload_n o_W_judged_66 rfl ?_
      refine q_iconst (v := (-1)) o_W_judged_67 (by decide) ?_
      refine q_icmp_ne o_W_judged_68 (fun c33 => ?_) (fun c33 => ?_)
      · have h34 := h32.1 c33
        refine q_iload_n o_W_judged_74 rfl ?_
        refine q_iconst (v := (-1)) o_W_judged_75 (by decide) ?_
        refine q_icmp_ne o_W_judged_76 (fun c35 => ?_) (fun c35 => ?_)
        · have h36 := h34.1 c35
          refine q2_inc (v := (l4 + 1)) (ls' := [some (.ref 0), some (.int p0), some (.int l2), some (.int l3), some (.int (l4 + 1))]) o_W_judged_106 rfl rfl (Nat.le_of_ble_eq_true rfl) rfl ?_
          refine q_goto o_W_judged_109 ?_
          exact h36
        · have h37 := h34.2 c35
          refine q_aload_n o_W_judged_79 rfl ?_
          obtain ⟨t39, eh38, bh38, h38⟩ := h37
          refine q2_getR hs12 o_W_judged_80 f_W_83 rfl eh38 ?_
          refine q_aload_n o_W_judged_83 rfl ?_
          refine q2_getR hs12 o_W_judged_84 f_W_83 rfl eh38 ?_
          refine q_aload_n o_W_judged_87 rfl ?_
          refine q2_getR hs12 o_W_judged_88 f_W_62 rfl (fz_0_7 hs12) ?_
          refine q2_getR hs12 o_W_judged_91 f_W_119 rfl (fz_19_0 hs12) ?_
          refine q2_callVl _ (a := t39) (As := [.ref 20]) (st := [.ref t39]) hs12 o_W_judged_94 k_W_226 (kd_Tw_0 bh38) rfl (Nat.le_of_ble_eq_true rfl) h38 (fun x43 σ41 hs42 h40 => ?_)
          refine q2_callVi _ (a := t39) (As := [.long x43]) (st := []) hs42 o_W_judged_97 k_W_230 (kd_Tw_0 bh38) rfl (Nat.le_of_ble_eq_true rfl) h40 (fun x47 σ45 hs46 h44 => ?_)
          refine q_if_eq o_W_judged_100 (fun c48 => ?_) (fun c48 => ?_)
          · have h49 := h44.1 c48
            refine q2_inc (v := (l4 + 1)) (ls' := [some (.ref 0), some (.int p0), some (.int l2), some (.int l3), some (.int (l4 + 1))]) o_W_judged_106 rfl rfl (Nat.le_of_ble_eq_true rfl) rfl ?_
            refine q_goto o_W_judged_109 ?_
            exact h49
          · have h50 := h44.2 c48
            refine q_iload o_W_judged_103 rfl ?_
            refine q2_istn (ls' := [some (.ref 0), some (.int p0), some (.int l2), some (.int l4), some (.int l4)]) o_W_judged_105 (Nat.le_of_ble_eq_true rfl) rfl ?_
            refine q2_inc (v := (l4 + 1)) (ls' := [some (.ref 0), some (.int p0), some (.int l2), some (.int l4), some (.int (l4 + 1))]) o_W_judged_106 rfl rfl (Nat.le_of_ble_eq_true rfl) rfl ?_
            refine q_goto o_W_judged_109 ?_
            exact h50
      · have h51 := h32.2 c33
        refine q_iload o_W_judged_71 rfl ?_
        refine q2_istn (ls' := [some (.ref 0), some (.int p0), some (.int l4), some (.int l3), some (.int l4)]) o_W_judged_73 (Nat.le_of_ble_eq_true rfl) rfl ?_
        refine q_iload_n o_W_judged_74 rfl ?_
        refine q_iconst (v := (-1)) o_W_judged_75 (by decide) ?_
        refine q_icmp_ne o_W_judged_76 (fun c52 => ?_) (fun c52 => ?_)
        · have h53 := h51.1 c52
          refine q2_inc (v := (l4 + 1)) (ls' := [some (.ref 0), some (.int p0), some (.int l4), some (.int l3), some (.int (l4 + 1))]) o_W_judged_106 rfl rfl (Nat.le_of_ble_eq_true rfl) rfl ?_
          refine q_goto o_W_judged_109 ?_
          exact h53
        · have h54 := h51.2 c52
          refine q_aload_n o_W_judged_79 rfl ?_
          obtain ⟨t56, eh55, bh55, h55⟩ := h54
          refine q2_getR hs12 o_W_judged_80 f_W_83 rfl eh55 ?_
          refine q_aload_n o_W_judged_83 rfl ?_
          refine q2_getR hs12 o_W_judged_84 f_W_83 rfl eh55 ?_
          refine q_aload_n o_W_judged_87 rfl ?_
          refine q2_getR hs12 o_W_judged_88 f_W_62 rfl (fz_0_7 hs12) ?_
          refine q2_getR hs12 o_W_judged_91 f_W_119 rfl (fz_19_0 hs12) ?_
          refine q2_callVl _ (a := t56) (As := [.ref 20]) (st := [.ref t56]) hs12 o_W_judged_94 k_W_226 (kd_Tw_0 bh55) rfl (Nat.le_of_ble_eq_true rfl) h55 (fun x60 σ58 hs59 h57 => ?_)
          refine q2_callVi _ (a := t56) (As := [.long x60]) (st := []) hs59 o_W_judged_97 k_W_230 (kd_Tw_0 bh55) rfl (Nat.le_of_ble_eq_true rfl) h57 (fun x64 σ62 hs63 h61 => ?_)
          refine q_if_eq o_W_judged_100 (fun c65 => ?_) (fun c65 => ?_)
          · have h66 := h61.1 c65
            refine q2_inc (v := (l4 + 1)) (ls' := [some (.ref 0), some (.int p0), some (.int l4), some (.int l3), some (.int (l4 + 1))]) o_W_judged_106 rfl rfl (Nat.le_of_ble_eq_true rfl) rfl ?_
            refine q_goto o_W_judged_109 ?_
            exact h66
          · have h67 := h61.2 c65
            refine q_iload o_W_judged_103 rfl ?_
            refine q2_istn (ls' := [some (.ref 0), some (.int p0), some (.int l4), some (.int l4), some (.int l4)]) o_W_judged_105 (Nat.le_of_ble_eq_true rfl) rfl ?_
            refine q2_inc (v := (l4 + 1)) (ls' := [some (.ref 0), some (.int p0), some (.int l4), some (.int l4), some (.int (l4 + 1))]) o_W_judged_106 rfl rfl (Nat.le_of_ble_eq_true rfl) rfl ?_
            refine q_goto o_W_judged_109 ?_
            exact h67

set_option maxRecDepth 20000 in
theorem v_W_broken_0 {G : q_G} {d : Nat} {σ : q_S} {Q : Option Value → q_S → Prop}   (hs : q_Sh σ) (h : (∃ t2, q_R σ 0 12 = some t2 ∧ q_isTw t2 ∧ q_Call G d 0 0 X_Tw_pairsOf [.ref t2, .ref 16] σ (q_rl (fun x6 σ4 => q_Call G d 0 0 X_Tw_brokenBy [.ref t2, .long x6] σ4 (q_ri (fun x10 σ8 => Q (some (.int x10)) σ8)))))) : q_At G X_W_broken (d + 1) 0 0 0 [some (.ref 0)] [] σ Q := by
  refine q_aload_n o_W_broken_0 rfl ?_
  obtain ⟨t2, eh1, bh1, h1⟩ := h
  refine q2_getR hs o_W_broken_1 f_W_83 rfl eh1 ?_
  refine q_aload_n o_W_broken_4 rfl ?_
  refine q2_getR hs o_W_broken_5 f_W_83 rfl eh1 ?_
  refine q_aload_n o_W_broken_8 rfl ?_
  refine q2_getR hs o_W_broken_9 f_W_58 rfl (fz_0_6 hs) ?_
  refine q2_getR hs o_W_broken_12 f_W_119 rfl (fz_15_0 hs) ?_
  refine q2_callVl _ (a := t2) (As := [.ref 16]) (st := [.ref t2]) hs o_W_broken_15 k_W_226 (kd_Tw_0 bh1) rfl (Nat.le_of_ble_eq_true rfl) h1 (fun x6 σ4 hs5 h3 => ?_)
  refine q2_callVi _ (a := t2) (As := [.long x6]) (st := []) hs5 o_W_broken_18 k_W_230 (kd_Tw_0 bh1) rfl (Nat.le_of_ble_eq_true rfl) h3 (fun x10 σ8 hs9 h7 => ?_)
  exact q_ire o_W_broken_21 rfl h7

set_option maxRecDepth 20000 in
theorem v_W_odds_0 {G : q_G} {d : Nat} {σ : q_S} {Q : Option Value → q_S → Prop} {p0 : Int32} {p1 : Int32}  (hs : q_Sh σ) (h : (∃ t2, q_R σ 0 12 = some t2 ∧ q_isTw t2 ∧ q_Call G d 0 0 X_Tw_housePairs [.ref t2] σ (q_ri (fun x6 σ4 => q_Call G d 0 0 X_W_areTwo [.ref 0, .int p0, .int p1] σ4 (q_ri (fun x10 σ8 => ((x10 = 0 → Q (some (.int (-1))) σ8) ∧ (¬ x10 = 0 → ((1 ≤ x6 → (∃ t17, q_R σ8 0 12 = some t17 ∧ q_isTw t17 ∧ (¬ x6 = 0 ∧ Q (some (.int (((q_I σ8 t17 15) * 1000000) / x6))) σ8))) ∧ (¬ 1 ≤ x6 → Q (some (.int (-1))) σ8)))))))))) : q_At G X_W_odds (d + 1) 0 0 0 [some (.ref 0), some (.int p0), some (.int p1), none] [] σ Q := by
  refine q_aload_n o_W_odds_0 rfl ?_
  obtain ⟨t2, eh1, bh1, h1⟩ := h
  refine q2_getR hs o_W_odds_1 f_W_83 rfl eh1 ?_
  refine q2_callVi _ (a := t2) (As := []) (st := []) hs o_W_odds_4 k_W_237 (kd_Tw_0 bh1) rfl (Nat.le_of_ble_eq_true rfl) h1 (fun x6 σ4 hs5 h3 => ?_)
  refine q2_istn (ls' := [some (.ref 0), some (.int p0), some (.int p1), some (.int x6)]) o_W_odds_7 (Nat.le_of_ble_eq_true rfl) rfl ?_
  refine q_aload_n o_W_odds_8 rfl ?_
  refine q_iload_n o_W_odds_9 rfl ?_
  refine q_iload_n o_W_odds_10 rfl ?_
  refine q2_callVi _ (a := 0) (As := [.int p0, .int p1]) (st := []) hs5 o_W_odds_11 k_W_162 rfl rfl (Nat.le_of_ble_eq_true rfl) h3 (fun x10 σ8 hs9 h7 => ?_)
  refine q_if_eq o_W_odds_14 (fun c11 => ?_) (fun c11 => ?_)
  · have h12 := h7.1 c11
    refine q_iconst (v := (-1)) o_W_odds_22 (by decide) ?_
    exact q_ire o_W_odds_23 rfl h12
  · have h13 := h7.2 c11
    refine q_iload_n o_W_odds_17 rfl ?_
    refine q_iconst (v := 1) o_W_odds_18 (by decide) ?_
    refine q_icmp_ge o_W_odds_19 (fun c14 => ?_) (fun c14 => ?_)
    · have h15 := h13.1 c14
      refine q_aload_n o_W_odds_24 rfl ?_
      obtain ⟨t17, eh16, bh16, h16⟩ := h15
      refine q2_getR hs9 o_W_odds_25 f_W_83 rfl eh16 ?_
      refine q2_getI hs9 o_W_odds_28 f_W_241 (kd_Tw_0 bh16) ?_
      refine q_ldc o_W_odds_31 n_W_244 ?_
      refine q_imul o_W_odds_33 ?_
      refine q_iload_n o_W_odds_34 rfl ?_
      obtain ⟨h18n, h18⟩ := h16
      refine q_idiv o_W_odds_35 h18n ?_
      exact q_ire o_W_odds_36 rfl h18
    · have h19 := h13.2 c14
      refine q_iconst (v := (-1)) o_W_odds_22 (by decide) ?_
      exact q_ire o_W_odds_23 rfl h19

set_option maxRecDepth 20000 in
theorem v_W_peace_0 {G : q_G} {d : Nat} {σ : q_S} {Q : Option Value → q_S → Prop} {p0 : Int32} {p1 : Int32}  (hs : q_Sh σ) (h : q_Call G d 0 0 X_W_isFamily [.ref 0, .int p0] σ (q_ri (fun x4 σ2 => ((x4 = 0 → Q (some (.int (-1))) σ2) ∧ (¬ x4 = 0 → ((p1 < 0 → Q (some (.int (-1))) σ2) ∧ (¬ p1 < 0 → ((p1 ≤ 999 → (∃ t14, q_R σ2 0 12 = some t14 ∧ q_isTw t14 ∧ q_Call G d 0 0 X_Wy_learn [.ref 5, .ref t14] σ2 (q_rv (fun σ16 => q_At G X_W_peace (d + 1) 0 0 37 [some (.ref 0), some (.int p0), some (.int p1), some (.int 0), some (.int 0)] [] σ16 Q)))) ∧ (¬ p1 ≤ 999 → Q (some (.int (-1))) σ2))))))))) : q_At G X_W_peace (d + 1) 0 0 0 [some (.ref 0), some (.int p0), some (.int p1), none, none] [] σ Q := by
  refine q_aload_n o_W_peace_0 rfl ?_
  refine q_iload_n o_W_peace_1 rfl ?_
  refine q2_callVi _ (a := 0) (As := [.int p0]) (st := []) hs o_W_peace_2 k_W_134 rfl rfl (Nat.le_of_ble_eq_true rfl) h (fun x4 σ2 hs3 h1 => ?_)
  refine q_if_eq o_W_peace_5 (fun c5 => ?_) (fun c5 => ?_)
  · have h6 := h1.1 c5
    refine q_iconst (v := (-1)) o_W_peace_19 (by decide) ?_
    exact q_ire o_W_peace_20 rfl h6
  · have h7 := h1.2 c5
    refine q_iload_n o_W_peace_8 rfl ?_
    refine q_if_lt o_W_peace_9 (fun c8 => ?_) (fun c8 => ?_)
    · have h9 := h7.1 c8
      refine q_iconst (v := (-1)) o_W_peace_19 (by decide) ?_
      exact q_ire o_W_peace_20 rfl h9
    · have h10 := h7.2 c8
      refine q_iload_n o_W_peace_12 rfl ?_
      refine q_sipush (v := 999) o_W_peace_13 (by decide) ?_
      refine q_icmp_le o_W_peace_16 (fun c11 => ?_) (fun c11 => ?_)
      · have h12 := h10.1 c11
        refine q_aload_n o_W_peace_21 rfl ?_
        refine q2_getR hs3 o_W_peace_22 f_W_37 rfl (fz_0_3 hs3) ?_
        refine q_aload_n o_W_peace_25 rfl ?_
        obtain ⟨t14, eh13, bh13, h13⟩ := h12
        refine q2_getR hs3 o_W_peace_26 f_W_83 rfl eh13 ?_
        refine q2_callVv _ (a := 5) (As := [.ref t14]) (st := []) hs3 o_W_peace_29 k_W_245 rfl rfl (Nat.le_of_ble_eq_true rfl) h13 (fun σ16 hs17 h15 => ?_)
        refine q_iconst (v := 0) o_W_peace_32 (by decide) ?_
        refine q2_istn (ls' := [some (.ref 0), some (.int p0), some (.int p1), some (.int 0), none]) o_W_peace_33 (Nat.le_of_ble_eq_true rfl) rfl ?_
        refine q_iconst (v := 0) o_W_peace_34 (by decide) ?_
        refine q2_ist (ls' := [some (.ref 0), some (.int p0), some (.int p1), some (.int 0), some (.int 0)]) o_W_peace_35 (Nat.le_of_ble_eq_true rfl) rfl ?_
        exact h15
      · have h18 := h10.2 c11
        refine q_iconst (v := (-1)) o_W_peace_19 (by decide) ?_
        exact q_ire o_W_peace_20 rfl h18

set_option maxRecDepth 20000 in
theorem v_W_peace_37 {G : q_G} {d : Nat} {σ : q_S} {Q : Option Value → q_S → Prop} {p0 : Int32} {p1 : Int32} {l3 : Int32} {l4 : Int32}  (hs : q_Sh σ) (h : (((q_I σ 5 7) ≤ l4 → ((1 ≤ (q_I σ 5 7) → (¬ (q_I σ 5 7).toInt64 = 0 ∧ Q (some (.int (((l3.toInt64 * 1000000) / (q_I σ 5 7).toInt64).toInt32))) σ)) ∧ (¬ 1 ≤ (q_I σ 5 7) → Q (some (.int (-1))) σ))) ∧ (¬ (q_I σ 5 7) ≤ l4 → q_Call G d 0 0 X_Wy_feltBy [.ref 5, .int l4, .int p0] σ (q_ri (fun x11 σ9 => ((p1 < x11 → q_At G X_W_peace (d + 1) 0 0 37 [some (.ref 0), some (.int p0), some (.int p1), some (.int l3), some (.int (l4 + 1))] [] σ9 Q) ∧ (¬ p1 < x11 → q_At G X_W_peace (d + 1) 0 0 37 [some (.ref 0), some (.int p0), some (.int p1), some (.int (l3 + 1)), some (.int (l4 + 1))] [] σ9 Q))))))) : q_At G X_W_peace (d + 1) 0 0 37 [some (.ref 0), some (.int p0), some (.int p1), some (.int l3), some (.int l4)] [] σ Q := by
  refine q_iload o_W_peace_37 rfl ?_
  refine q_aload_n o_W_peace_39 rfl ?_
  refine q2_getR hs o_W_peace_40 f_W_37 rfl (fz_0_3 hs) ?_
  refine q2_getI hs o_W_peace_43 f_W_248 rfl ?_
  refine q_icmp_ge o_W_peace_46 (fun c1 => ?_) (fun c1 => ?_)
  · have h2 := h.1 c1
    refine q_aload_n o_W_peace_72 rfl ?_
    refine q2_getR hs o_W_peace_73 f_W_37 rfl (fz_0_3 hs) ?_
    refine q2_getI hs o_W_peace_76 f_W_248 rfl ?_
    refine q_iconst (v := 1) o_W_peace_79 (by decide) ?_
    refine q_icmp_ge o_W_peace_80 (fun c3 => ?_) (fun c3 => ?_)
    · have h4 := h2.1 c3
      refine q_iload_n o_W_peace_87 rfl ?_
      refine q_i2l o_W_peace_88 ?_
      refine q_ldc2 o_W_peace_89 n_W_254 ?_
      refine q_lmul o_W_peace_92 ?_
      refine q_aload_n o_W_peace_93 rfl ?_
      refine q2_getR hs o_W_peace_94 f_W_37 rfl (fz_0_3 hs) ?_
      refine q2_getI hs o_W_peace_97 f_W_248 rfl ?_
      refine q_i2l o_W_peace_100 ?_
      obtain ⟨h5n, h5⟩ := h4
      refine q_ldiv o_W_peace_101 h5n ?_
      refine q_l2i o_W_peace_102 ?_
      exact q_ire o_W_peace_103 rfl h5
    · have h6 := h2.2 c3
      refine q_iconst (v := (-1)) o_W_peace_83 (by decide) ?_
      refine q_goto o_W_peace_84 ?_
      exact q_ire o_W_peace_103 rfl h6
  · have h7 := h.2 c1
    refine q_aload_n o_W_peace_49 rfl ?_
    refine q2_getR hs o_W_peace_50 f_W_37 rfl (fz_0_3 hs) ?_
    refine q_iload o_W_peace_53 rfl ?_
    refine q_iload_n o_W_peace_55 rfl ?_
    refine q2_callVi _ (a := 5) (As := [.int l4, .int p0]) (st := []) hs o_W_peace_56 k_W_251 rfl rfl (Nat.le_of_ble_eq_true rfl) h7 (fun x11 σ9 hs10 h8 => ?_)
    refine q_iload_n o_W_peace_59 rfl ?_
    refine q_icmp_gt o_W_peace_60 (fun c12 => ?_) (fun c12 => ?_)
    · have h13 := h8.1 c12
      refine q2_inc (v := (l4 + 1)) (ls' := [some (.ref 0), some (.int p0), some (.int p1), some (.int l3), some (.int (l4 + 1))]) o_W_peace_66 rfl rfl (Nat.le_of_ble_eq_true rfl) rfl ?_
      refine q_goto o_W_peace_69 ?_
      exact h13
    · have h14 := h8.2 c12
      refine q2_inc (v := (l3 + 1)) (ls' := [some (.ref 0), some (.int p0), some (.int p1), some (.int (l3 + 1)), some (.int l4)]) o_W_peace_63 rfl rfl (Nat.le_of_ble_eq_true rfl) rfl ?_
      refine q2_inc (v := (l4 + 1)) (ls' := [some (.ref 0), some (.int p0), some (.int p1), some (.int (l3 + 1)), some (.int (l4 + 1))]) o_W_peace_66 rfl rfl (Nat.le_of_ble_eq_true rfl) rfl ?_
      refine q_goto o_W_peace_69 ?_
      exact h14

set_option maxRecDepth 20000 in
theorem v_W_hope_0 {G : q_G} {d : Nat} {σ : q_S} {Q : Option Value → q_S → Prop} {p0 : Int32}  (hs : q_Sh σ) (h : q_Call G d 0 0 X_W_isFamily [.ref 0, .int p0] σ (q_ri (fun x4 σ2 => ((¬ x4 = 0 → (∃ t8, q_R σ2 0 12 = some t8 ∧ q_isTw t8 ∧ q_Call G d 0 0 X_Wy_learn [.ref 5, .ref t8] σ2 (q_rv (fun σ10 => ((1 ≤ (q_I σ10 5 7) → (∃ k15, p0 = nI k15 ∧ k15 < 6 ∧ (¬ (q_I σ10 5 7).toInt64 = 0 ∧ Q (some (.int ((((q_I σ10 10 k15).toInt64 * 1000) / (q_I σ10 5 7).toInt64).toInt32))) σ10))) ∧ (¬ 1 ≤ (q_I σ10 5 7) → Q (some (.int 0)) σ10)))))) ∧ (x4 = 0 → Q (some (.retAddr 159)) σ2))))) : q_At G X_W_hope (d + 1) 0 0 0 [some (.ref 0), some (.int p0)] [] σ Q := by
  refine q_aload_n o_W_hope_0 rfl ?_
  refine q_iload_n o_W_hope_1 rfl ?_
  refine q2_callVi _ (a := 0) (As := [.int p0]) (st := []) hs o_W_hope_2 k_W_134 rfl rfl (Nat.le_of_ble_eq_true rfl) h (fun x4 σ2 hs3 h1 => ?_)
  refine q_if_ne o_W_hope_5 (fun c5 => ?_) (fun c5 => ?_)
  · have h6 := h1.1 c5
    refine q_aload_n o_W_hope_16 rfl ?_
    refine q2_getR hs3 o_W_hope_17 f_W_37 rfl (fz_0_3 hs3) ?_
    refine q_aload_n o_W_hope_20 rfl ?_
    obtain ⟨t8, eh7, bh7, h7⟩ := h6
    refine q2_getR hs3 o_W_hope_21 f_W_83 rfl eh7 ?_
    refine q2_callVv _ (a := 5) (As := [.ref t8]) (st := []) hs3 o_W_hope_24 k_W_245 rfl rfl (Nat.le_of_ble_eq_true rfl) h7 (fun σ10 hs11 h9 => ?_)
    refine q_aload_n o_W_hope_27 rfl ?_
    refine q2_getR hs11 o_W_hope_28 f_W_37 rfl (fz_0_3 hs11) ?_
    refine q2_getI hs11 o_W_hope_31 f_W_248 rfl ?_
    refine q_iconst (v := 1) o_W_hope_34 (by decide) ?_
    refine q_icmp_ge o_W_hope_35 (fun c12 => ?_) (fun c12 => ?_)
    · have h13 := h9.1 c12
      refine q_aload_n o_W_hope_42 rfl ?_
      refine q2_getR hs11 o_W_hope_43 f_W_37 rfl (fz_0_3 hs11) ?_
      refine q2_getR hs11 o_W_hope_46 f_W_256 rfl (fz_5_4 hs11) ?_
      refine q_iload_n o_W_hope_49 rfl ?_
      obtain ⟨k15, eh14, bh14, h14⟩ := h13
      refine q2_iald hs11 o_W_hope_50 rfl eh14 bh14 (by decide) ?_
      refine q_i2l o_W_hope_51 ?_
      refine q_ldc2 o_W_hope_52 n_W_259 ?_
      refine q_lmul o_W_hope_55 ?_
      refine q_aload_n o_W_hope_56 rfl ?_
      refine q2_getR hs11 o_W_hope_57 f_W_37 rfl (fz_0_3 hs11) ?_
      refine q2_getI hs11 o_W_hope_60 f_W_248 rfl ?_
      refine q_i2l o_W_hope_63 ?_
      obtain ⟨h16n, h16⟩ := h14
      refine q_ldiv o_W_hope_64 h16n ?_
      refine q_l2i o_W_hope_65 ?_
      exact q_ire o_W_hope_66 rfl h16
    · have h17 := h9.2 c12
      refine q_iconst (v := 0) o_W_hope_38 (by decide) ?_
      refine q_goto o_W_hope_39 ?_
      exact q_ire o_W_hope_66 rfl h17
  · have h18 := h1.2 c5
    exact q_thr o_W_hope_8 h18

set_option maxRecDepth 20000 in
theorem v_W_mend_0 {G : q_G} {d : Nat} {σ : q_S} {Q : Option Value → q_S → Prop} {p0 : Int32}  (hs : q_Sh σ) (h : ((p0 = (-1) → (∃ t4, q_R σ 0 12 = some t4 ∧ q_isTw t4 ∧ q_Call G d 0 0 X_Wy_learn [.ref 5, .ref t4] σ (q_rv (fun σ6 => (∃ t9, q_R σ6 0 12 = some t9 ∧ q_isTw t9 ∧ q_Call G d 0 0 X_Wy_firstMending [.ref 5, .ref t9, .ref 16] σ6 (q_ri (fun x13 σ11 => ((¬ x13 = (-1) → ((¬ p0 = (-1) → q_Call G d 0 0 X_Wy_houseOf [.ref 5, .int x13, .int p0] σ11 (q_ri (fun x21 σ19 => Q (some (.int x21)) σ19))) ∧ (p0 = (-1) → (∃ t24, q_R σ11 0 12 = some t24 ∧ q_isTw t24 ∧ q_Call G d 0 0 X_Wy_swapsTo [.ref 5, .int x13, .ref t24, .ref 16] σ11 (q_ri (fun x28 σ26 => Q (some (.int x28)) σ26)))))) ∧ (x13 = (-1) → Q (some (.int (-2))) σ11))))))))) ∧ (¬ p0 = (-1) → q_Call G d 0 0 X_W_isFamily [.ref 0, .int p0] σ (q_ri (fun x34 σ32 => ((¬ x34 = 0 → (∃ t38, q_R σ32 0 12 = some t38 ∧ q_isTw t38 ∧ q_Call G d 0 0 X_Wy_learn [.ref 5, .ref t38] σ32 (q_rv (fun σ40 => (∃ t43, q_R σ40 0 12 = some t43 ∧ q_isTw t43 ∧ q_Call G d 0 0 X_Wy_firstMending [.ref 5, .ref t43, .ref 16] σ40 (q_ri (fun x47 σ45 => ((¬ x47 = (-1) → ((¬ p0 = (-1) → q_Call G d 0 0 X_Wy_houseOf [.ref 5, .int x47, .int p0] σ45 (q_ri (fun x55 σ53 => Q (some (.int x55)) σ53))) ∧ (p0 = (-1) → (∃ t58, q_R σ45 0 12 = some t58 ∧ q_isTw t58 ∧ q_Call G d 0 0 X_Wy_swapsTo [.ref 5, .int x47, .ref t58, .ref 16] σ45 (q_ri (fun x62 σ60 => Q (some (.int x62)) σ60)))))) ∧ (x47 = (-1) → Q (some (.int (-2))) σ45))))))))) ∧ (x34 = 0 → Q (some (.int (-2))) σ32))))))) : q_At G X_W_mend (d + 1) 0 0 0 [some (.ref 0), some (.int p0), none] [] σ Q := by
  refine q_iload_n o_W_mend_0 rfl ?_
  refine q_iconst (v := (-1)) o_W_mend_1 (by decide) ?_
  refine q_icmp_eq o_W_mend_2 (fun c1 => ?_) (fun c1 => ?_)
  · have h2 := h.1 c1
    refine q_aload_n o_W_mend_16 rfl ?_
    refine q2_getR hs o_W_mend_17 f_W_37 rfl (fz_0_3 hs) ?_
    refine q_aload_n o_W_mend_20 rfl ?_
    obtain ⟨t4, eh3, bh3, h3⟩ := h2
    refine q2_getR hs o_W_mend_21 f_W_83 rfl eh3 ?_
    refine q2_callVv _ (a := 5) (As := [.ref t4]) (st := []) hs o_W_mend_24 k_W_245 rfl rfl (Nat.le_of_ble_eq_true rfl) h3 (fun σ6 hs7 h5 => ?_)
    refine q_aload_n o_W_mend_27 rfl ?_
    refine q2_getR hs7 o_W_mend_28 f_W_37 rfl (fz_0_3 hs7) ?_
    refine q_aload_n o_W_mend_31 rfl ?_
    obtain ⟨t9, eh8, bh8, h8⟩ := h5
    refine q2_getR hs7 o_W_mend_32 f_W_83 rfl eh8 ?_
    refine q_aload_n o_W_mend_35 rfl ?_
    refine q2_getR hs7 o_W_mend_36 f_W_58 rfl (fz_0_6 hs7) ?_
    refine q2_getR hs7 o_W_mend_39 f_W_119 rfl (fz_15_0 hs7) ?_
    refine q2_callVi _ (a := 5) (As := [.ref t9, .ref 16]) (st := []) hs7 o_W_mend_42 k_W_261 rfl rfl (Nat.le_of_ble_eq_true rfl) h8 (fun x13 σ11 hs12 h10 => ?_)
    refine q2_istn (ls' := [some (.ref 0), some (.int p0), some (.int x13)]) o_W_mend_45 (Nat.le_of_ble_eq_true rfl) rfl ?_
    refine q_iload_n o_W_mend_46 rfl ?_
    refine q_iconst (v := (-1)) o_W_mend_47 (by decide) ?_
    refine q_icmp_ne o_W_mend_48 (fun c14 => ?_) (fun c14 => ?_)
    · have h15 := h10.1 c14
      refine q_iload_n o_W_mend_54 rfl ?_
      refine q_iconst (v := (-1)) o_W_mend_55 (by decide) ?_
      refine q_icmp_ne o_W_mend_56 (fun c16 => ?_) (fun c16 => ?_)
      · have h17 := h15.1 c16
        refine q_aload_n o_W_mend_81 rfl ?_
        refine q2_getR hs12 o_W_mend_82 f_W_37 rfl (fz_0_3 hs12) ?_
        refine q_iload_n o_W_mend_85 rfl ?_
        refine q_iload_n o_W_mend_86 rfl ?_
        refine q2_callVi _ (a := 5) (As := [.int x13, .int p0]) (st := []) hs12 o_W_mend_87 k_W_269 rfl rfl (Nat.le_of_ble_eq_true rfl) h17 (fun x21 σ19 hs20 h18 => ?_)
        exact q_ire o_W_mend_90 rfl h18
      · have h22 := h15.2 c16
        refine q_aload_n o_W_mend_59 rfl ?_
        refine q2_getR hs12 o_W_mend_60 f_W_37 rfl (fz_0_3 hs12) ?_
        refine q_iload_n o_W_mend_63 rfl ?_
        refine q_aload_n o_W_mend_64 rfl ?_
        obtain ⟨t24, eh23, bh23, h23⟩ := h22
        refine q2_getR hs12 o_W_mend_65 f_W_83 rfl eh23 ?_
        refine q_aload_n o_W_mend_68 rfl ?_
        refine q2_getR hs12 o_W_mend_69 f_W_58 rfl (fz_0_6 hs12) ?_
        refine q2_getR hs12 o_W_mend_72 f_W_119 rfl (fz_15_0 hs12) ?_
        refine q2_callVi _ (a := 5) (As := [.int x13, .ref t24, .ref 16]) (st := []) hs12 o_W_mend_75 k_W_265 rfl rfl (Nat.le_of_ble_eq_true rfl) h23 (fun x28 σ26 hs27 h25 => ?_)
        refine q_goto o_W_mend_78 ?_
        exact q_ire o_W_mend_90 rfl h25
    · have h29 := h10.2 c14
      refine q_bipush (v := (-2)) o_W_mend_51 (by decide) ?_
      exact q_ire o_W_mend_53 rfl h29
  · have h30 := h.2 c1
    refine q_aload_n o_W_mend_5 rfl ?_
    refine q_iload_n o_W_mend_6 rfl ?_
    refine q2_callVi _ (a := 0) (As := [.int p0]) (st := []) hs o_W_mend_7 k_W_134 rfl rfl (Nat.le_of_ble_eq_true rfl) h30 (fun x34 σ32 hs33 h31 => ?_)
    refine q_if_ne o_W_mend_10 (fun c35 => ?_) (fun c35 => ?_)
    · have h36 := h31.1 c35
      refine q_aload_n o_W_mend_16 rfl ?_
      refine q2_getR hs33 o_W_mend_17 f_W_37 rfl (fz_0_3 hs33) ?_
      refine q_aload_n o_W_mend_20 rfl ?_
      obtain ⟨t38, eh37, bh37, h37⟩ := h36
      refine q2_getR hs33 o_W_mend_21 f_W_83 rfl eh37 ?_
      refine q2_callVv _ (a := 5) (As := [.ref t38]) (st := []) hs33 o_W_mend_24 k_W_245 rfl rfl (Nat.le_of_ble_eq_true rfl) h37 (fun σ40 hs41 h39 => ?_)
      refine q_aload_n o_W_mend_27 rfl ?_
      refine q2_getR hs41 o_W_mend_28 f_W_37 rfl (fz_0_3 hs41) ?_
      refine q_aload_n o_W_mend_31 rfl ?_
      obtain ⟨t43, eh42, bh42, h42⟩ := h39
      refine q2_getR hs41 o_W_mend_32 f_W_83 rfl eh42 ?_
      refine q_aload_n o_W_mend_35 rfl ?_
      refine q2_getR hs41 o_W_mend_36 f_W_58 rfl (fz_0_6 hs41) ?_
      refine q2_getR hs41 o_W_mend_39 f_W_119 rfl (fz_15_0 hs41) ?_
      refine q2_callVi _ (a := 5) (As := [.ref t43, .ref 16]) (st := []) hs41 o_W_mend_42 k_W_261 rfl rfl (Nat.le_of_ble_eq_true rfl) h42 (fun x47 σ45 hs46 h44 => ?_)
      refine q2_istn (ls' := [some (.ref 0), some (.int p0), some (.int x47)]) o_W_mend_45 (Nat.le_of_ble_eq_true rfl) rfl ?_
      refine q_iload_n o_W_mend_46 rfl ?_
      refine q_iconst (v := (-1)) o_W_mend_47 (by decide) ?_
      refine q_icmp_ne o_W_mend_48 (fun c48 => ?_) (fun c48 => ?_)
      · have h49 := h44.1 c48
        refine q_iload_n o_W_mend_54 rfl ?_
        refine q_iconst (v := (-1)) o_W_mend_55 (by decide) ?_
        refine q_icmp_ne o_W_mend_56 (fun c50 => ?_) (fun c50 => ?_)
        · have h51 := h49.1 c50
          refine q_aload_n o_W_mend_81 rfl ?_
          refine q2_getR hs46 o_W_mend_82 f_W_37 rfl (fz_0_3 hs46) ?_
          refine q_iload_n o_W_mend_85 rfl ?_
          refine q_iload_n o_W_mend_86 rfl ?_
          refine q2_callVi _ (a := 5) (As := [.int x47, .int p0]) (st := []) hs46 o_W_mend_87 k_W_269 rfl rfl (Nat.le_of_ble_eq_true rfl) h51 (fun x55 σ53 hs54 h52 => ?_)
          exact q_ire o_W_mend_90 rfl h52
        · have h56 := h49.2 c50
          refine q_aload_n o_W_mend_59 rfl ?_
          refine q2_getR hs46 o_W_mend_60 f_W_37 rfl (fz_0_3 hs46) ?_
          refine q_iload_n o_W_mend_63 rfl ?_
          refine q_aload_n o_W_mend_64 rfl ?_
          obtain ⟨t58, eh57, bh57, h57⟩ := h56
          refine q2_getR hs46 o_W_mend_65 f_W_83 rfl eh57 ?_
          refine q_aload_n o_W_mend_68 rfl ?_
          refine q2_getR hs46 o_W_mend_69 f_W_58 rfl (fz_0_6 hs46) ?_
          refine q2_getR hs46 o_W_mend_72 f_W_119 rfl (fz_15_0 hs46) ?_
          refine q2_callVi _ (a := 5) (As := [.int x47, .ref t58, .ref 16]) (st := []) hs46 o_W_mend_75 k_W_265 rfl rfl (Nat.le_of_ble_eq_true rfl) h57 (fun x62 σ60 hs61 h59 => ?_)
          refine q_goto o_W_mend_78 ?_
          exact q_ire o_W_mend_90 rfl h59
      · have h63 := h44.2 c48
        refine q_bipush (v := (-2)) o_W_mend_51 (by decide) ?_
        exact q_ire o_W_mend_53 rfl h63
    · have h64 := h31.2 c35
      refine q_bipush (v := (-2)) o_W_mend_13 (by decide) ?_
      exact q_ire o_W_mend_15 rfl h64

set_option maxRecDepth 20000 in
theorem v_W_please_0 {G : q_G} {d : Nat} {σ : q_S} {Q : Option Value → q_S → Prop} {p0 : Int32}  (hs : q_Sh σ) (h : ((p0 = 0 → (∃ t5, q_R σ 0 12 = some t5 ∧ q_isTw t5 ∧ q_Call G d 0 0 X_Wy_learn [.ref 5, .ref t5] σ (q_rv (fun σ7 => (∃ t10, q_R σ7 0 12 = some t10 ∧ q_isTw t10 ∧ q_Call G d 0 0 X_Wy_firstPleasing [.ref 5, .ref t10, .ref 16] σ7 (q_ri (fun x14 σ12 => ((p0.toInt = 0 → q_Call G d 0 0 X_Wy_contentIn [.ref 5, .int x14] σ12 (q_ri (fun x19 σ17 => Q (some (.int x19)) σ17))) ∧ (p0.toInt = 1 → (∃ t22, q_R σ12 0 12 = some t22 ∧ q_isTw t22 ∧ q_Call G d 0 0 X_Wy_swapsTo [.ref 5, .int x14, .ref t22, .ref 16] σ12 (q_ri (fun x26 σ24 => Q (some (.int x26)) σ24)))) ∧ ((¬ p0.toInt = 0 ∧ ¬ p0.toInt = 1) → q_Call G d 0 0 X_Wy_houseOf [.ref 5, .int x14, .int (p0 - 2)] σ12 (q_ri (fun x31 σ29 => Q (some (.int x31)) σ29))))))))))) ∧ (¬ p0 = 0 → ((p0 = 1 → (∃ t37, q_R σ 0 12 = some t37 ∧ q_isTw t37 ∧ q_Call G d 0 0 X_Wy_learn [.ref 5, .ref t37] σ (q_rv (fun σ39 => (∃ t42, q_R σ39 0 12 = some t42 ∧ q_isTw t42 ∧ q_Call G d 0 0 X_Wy_firstPleasing [.ref 5, .ref t42, .ref 16] σ39 (q_ri (fun x46 σ44 => ((p0.toInt = 0 → q_Call G d 0 0 X_Wy_contentIn [.ref 5, .int x46] σ44 (q_ri (fun x51 σ49 => Q (some (.int x51)) σ49))) ∧ (p0.toInt = 1 → (∃ t54, q_R σ44 0 12 = some t54 ∧ q_isTw t54 ∧ q_Call G d 0 0 X_Wy_swapsTo [.ref 5, .int x46, .ref t54, .ref 16] σ44 (q_ri (fun x58 σ56 => Q (some (.int x58)) σ56)))) ∧ ((¬ p0.toInt = 0 ∧ ¬ p0.toInt = 1) → q_Call G d 0 0 X_Wy_houseOf [.ref 5, .int x46, .int (p0 - 2)] σ44 (q_ri (fun x63 σ61 => Q (some (.int x63)) σ61))))))))))) ∧ (¬ p0 = 1 → ((p0 < 2 → Q (some (.int (-1))) σ) ∧ (¬ p0 < 2 → q_Call G d 0 0 X_W_isFamily [.ref 0, .int (p0 - 2)] σ (q_ri (fun x72 σ70 => ((¬ (if x72 = 0 then (0 : Int32) else (1 : Int32)) = 0 → (∃ t77, q_R σ70 0 12 = some t77 ∧ q_isTw t77 ∧ q_Call G d 0 0 X_Wy_learn [.ref 5, .ref t77] σ70 (q_rv (fun σ79 => (∃ t82, q_R σ79 0 12 = some t82 ∧ q_isTw t82 ∧ q_Call G d 0 0 X_Wy_firstPleasing [.ref 5, .ref t82, .ref 16] σ79 (q_ri (fun x86 σ84 => ((p0.toInt = 0 → q_Call G d 0 0 X_Wy_contentIn [.ref 5, .int x86] σ84 (q_ri (fun x91 σ89 => Q (some (.int x91)) σ89))) ∧ (p0.toInt = 1 → (∃ t94, q_R σ84 0 12 = some t94 ∧ q_isTw t94 ∧ q_Call G d 0 0 X_Wy_swapsTo [.ref 5, .int x86, .ref t94, .ref 16] σ84 (q_ri (fun x98 σ96 => Q (some (.int x98)) σ96)))) ∧ ((¬ p0.toInt = 0 ∧ ¬ p0.toInt = 1) → q_Call G d 0 0 X_Wy_houseOf [.ref 5, .int x86, .int (p0 - 2)] σ84 (q_ri (fun x103 σ101 => Q (some (.int x103)) σ101))))))))))) ∧ ((if x72 = 0 then (0 : Int32) else (1 : Int32)) = 0 → Q (some (.int (-1))) σ70))))))))))) : q_At G X_W_please (d + 1) 0 0 0 [some (.ref 0), some (.int p0), none, none] [] σ Q := by
  refine q_iload_n o_W_please_0 rfl ?_
  refine q_if_eq o_W_please_1 (fun c1 => ?_) (fun c1 => ?_)
  · have h2 := h.1 c1
    refine q_iconst (v := 1) o_W_please_24 (by decide) ?_
    refine q_goto o_W_please_25 ?_
    refine q2_istn (ls' := [some (.ref 0), some (.int p0), some (.int 1), none]) o_W_please_29 (Nat.le_of_ble_eq_true rfl) rfl ?_
    refine q_iload_n o_W_please_30 rfl ?_
    refine q_if_ne o_W_please_31 (fun _ => ?_) (fun c3 => absurd c3 (by decide))
    refine q_aload_n o_W_please_36 rfl ?_
    refine q2_getR hs o_W_please_37 f_W_37 rfl (fz_0_3 hs) ?_
    refine q_aload_n o_W_please_40 rfl ?_
    obtain ⟨t5, eh4, bh4, h4⟩ := h2
    refine q2_getR hs o_W_please_41 f_W_83 rfl eh4 ?_
    refine q2_callVv _ (a := 5) (As := [.ref t5]) (st := []) hs o_W_please_44 k_W_245 rfl rfl (Nat.le_of_ble_eq_true rfl) h4 (fun σ7 hs8 h6 => ?_)
    refine q_aload_n o_W_please_47 rfl ?_
    refine q2_getR hs8 o_W_please_48 f_W_37 rfl (fz_0_3 hs8) ?_
    refine q_aload_n o_W_please_51 rfl ?_
    obtain ⟨t10, eh9, bh9, h9⟩ := h6
    refine q2_getR hs8 o_W_please_52 f_W_83 rfl eh9 ?_
    refine q_aload_n o_W_please_55 rfl ?_
    refine q2_getR hs8 o_W_please_56 f_W_58 rfl (fz_0_6 hs8) ?_
    refine q2_getR hs8 o_W_please_59 f_W_119 rfl (fz_15_0 hs8) ?_
    refine q2_callVi _ (a := 5) (As := [.ref t10, .ref 16]) (st := []) hs8 o_W_please_62 k_W_272 rfl rfl (Nat.le_of_ble_eq_true rfl) h9 (fun x14 σ12 hs13 h11 => ?_)
    refine q2_istn (ls' := [some (.ref 0), some (.int p0), some (.int 1), some (.int x14)]) o_W_please_65 (Nat.le_of_ble_eq_true rfl) rfl ?_
    refine q_iload_n o_W_please_66 rfl ?_
    rcases (by omega : p0.toInt = 0 ∨ p0.toInt = 1 ∨ (¬ p0.toInt = 0 ∧ ¬ p0.toInt = 1)) with c | c | c
    · have h15 := h11.1 c
      refine q_lookup (tgt := 92) (off := 25) o_W_please_67 (by decide) (by simp [Op.lookupswitch.offset, c]) (by decide) ?_
      refine q_aload_n o_W_please_92 rfl ?_
      refine q2_getR hs13 o_W_please_93 f_W_37 rfl (fz_0_3 hs13) ?_
      refine q_iload_n o_W_please_96 rfl ?_
      refine q2_callVi _ (a := 5) (As := [.int x14]) (st := []) hs13 o_W_please_97 k_W_275 rfl rfl (Nat.le_of_ble_eq_true rfl) h15 (fun x19 σ17 hs18 h16 => ?_)
      exact q_ire o_W_please_100 rfl h16
    · have h20 := h11.2.1 c
      refine q_lookup (tgt := 101) (off := 34) o_W_please_67 (by decide) (by simp [Op.lookupswitch.offset, c]) (by decide) ?_
      refine q_aload_n o_W_please_101 rfl ?_
      refine q2_getR hs13 o_W_please_102 f_W_37 rfl (fz_0_3 hs13) ?_
      refine q_iload_n o_W_please_105 rfl ?_
      refine q_aload_n o_W_please_106 rfl ?_
      obtain ⟨t22, eh21, bh21, h21⟩ := h20
      refine q2_getR hs13 o_W_please_107 f_W_83 rfl eh21 ?_
      refine q_aload_n o_W_please_110 rfl ?_
      refine q2_getR hs13 o_W_please_111 f_W_58 rfl (fz_0_6 hs13) ?_
      refine q2_getR hs13 o_W_please_114 f_W_119 rfl (fz_15_0 hs13) ?_
      refine q2_callVi _ (a := 5) (As := [.int x14, .ref t22, .ref 16]) (st := []) hs13 o_W_please_117 k_W_265 rfl rfl (Nat.le_of_ble_eq_true rfl) h21 (fun x26 σ24 hs25 h23 => ?_)
      exact q_ire o_W_please_120 rfl h23
    · have h27 := h11.2.2 c
      refine q_lookup (tgt := 121) (off := 54) o_W_please_67 (by decide) (by simp [Op.lookupswitch.offset, Ne.symm c.1, Ne.symm c.2]) (by decide) ?_
      refine q_aload_n o_W_please_121 rfl ?_
      refine q2_getR hs13 o_W_please_122 f_W_37 rfl (fz_0_3 hs13) ?_
      refine q_iload_n o_W_please_125 rfl ?_
      refine q_iload_n o_W_please_126 rfl ?_
      refine q_iconst (v := 2) o_W_please_127 (by decide) ?_
      refine q_isub o_W_please_128 ?_
      refine q2_callVi _ (a := 5) (As := [.int x14, .int (p0 - 2)]) (st := []) hs13 o_W_please_129 k_W_269 rfl rfl (Nat.le_of_ble_eq_true rfl) h27 (fun x31 σ29 hs30 h28 => ?_)
      exact q_ire o_W_please_132 rfl h28
  · have h32 := h.2 c1
    refine q_iload_n o_W_please_4 rfl ?_
    refine q_iconst (v := 1) o_W_please_5 (by decide) ?_
    refine q_icmp_eq o_W_please_6 (fun c33 => ?_) (fun c33 => ?_)
    · have h34 := h32.1 c33
      refine q_iconst (v := 1) o_W_please_24 (by decide) ?_
      refine q_goto o_W_please_25 ?_
      refine q2_istn (ls' := [some (.ref 0), some (.int p0), some (.int 1), none]) o_W_please_29 (Nat.le_of_ble_eq_true rfl) rfl ?_
      refine q_iload_n o_W_please_30 rfl ?_
      refine q_if_ne o_W_please_31 (fun _ => ?_) (fun c35 => absurd c35 (by decide))
      refine q_aload_n o_W_please_36 rfl ?_
      refine q2_getR hs o_W_please_37 f_W_37 rfl (fz_0_3 hs) ?_
      refine q_aload_n o_W_please_40 rfl ?_
      obtain ⟨t37, eh36, bh36, h36⟩ := h34
      refine q2_getR hs o_W_please_41 f_W_83 rfl eh36 ?_
      refine q2_callVv _ (a := 5) (As := [.ref t37]) (st := []) hs o_W_please_44 k_W_245 rfl rfl (Nat.le_of_ble_eq_true rfl) h36 (fun σ39 hs40 h38 => ?_)
      refine q_aload_n o_W_please_47 rfl ?_
      refine q2_getR hs40 o_W_please_48 f_W_37 rfl (fz_0_3 hs40) ?_
      refine q_aload_n o_W_please_51 rfl ?_
      obtain ⟨t42, eh41, bh41, h41⟩ := h38
      refine q2_getR hs40 o_W_please_52 f_W_83 rfl eh41 ?_
      refine q_aload_n o_W_please_55 rfl ?_
      refine q2_getR hs40 o_W_please_56 f_W_58 rfl (fz_0_6 hs40) ?_
      refine q2_getR hs40 o_W_please_59 f_W_119 rfl (fz_15_0 hs40) ?_
      refine q2_callVi _ (a := 5) (As := [.ref t42, .ref 16]) (st := []) hs40 o_W_please_62 k_W_272 rfl rfl (Nat.le_of_ble_eq_true rfl) h41 (fun x46 σ44 hs45 h43 => ?_)
      refine q2_istn (ls' := [some (.ref 0), some (.int p0), some (.int 1), some (.int x46)]) o_W_please_65 (Nat.le_of_ble_eq_true rfl) rfl ?_
      refine q_iload_n o_W_please_66 rfl ?_
      rcases (by omega : p0.toInt = 0 ∨ p0.toInt = 1 ∨ (¬ p0.toInt = 0 ∧ ¬ p0.toInt = 1)) with c | c | c
      · have h47 := h43.1 c
        refine q_lookup (tgt := 92) (off := 25) o_W_please_67 (by decide) (by simp [Op.lookupswitch.offset, c]) (by decide) ?_
        refine q_aload_n o_W_please_92 rfl ?_
        refine q2_getR hs45 o_W_please_93 f_W_37 rfl (fz_0_3 hs45) ?_
        refine q_iload_n o_W_please_96 rfl ?_
        refine q2_callVi _ (a := 5) (As := [.int x46]) (st := []) hs45 o_W_please_97 k_W_275 rfl rfl (Nat.le_of_ble_eq_true rfl) h47 (fun x51 σ49 hs50 h48 => ?_)
        exact q_ire o_W_please_100 rfl h48
      · have h52 := h43.2.1 c
        refine q_lookup (tgt := 101) (off := 34) o_W_please_67 (by decide) (by simp [Op.lookupswitch.offset, c]) (by decide) ?_
        refine q_aload_n o_W_please_101 rfl ?_
        refine q2_getR hs45 o_W_please_102 f_W_37 rfl (fz_0_3 hs45) ?_
        refine q_iload_n o_W_please_105 rfl ?_
        refine q_aload_n o_W_please_106 rfl ?_
        obtain ⟨t54, eh53, bh53, h53⟩ := h52
        refine q2_getR hs45 o_W_please_107 f_W_83 rfl eh53 ?_
        refine q_aload_n o_W_please_110 rfl ?_
        refine q2_getR hs45 o_W_please_111 f_W_58 rfl (fz_0_6 hs45) ?_
        refine q2_getR hs45 o_W_please_114 f_W_119 rfl (fz_15_0 hs45) ?_
        refine q2_callVi _ (a := 5) (As := [.int x46, .ref t54, .ref 16]) (st := []) hs45 o_W_please_117 k_W_265 rfl rfl (Nat.le_of_ble_eq_true rfl) h53 (fun x58 σ56 hs57 h55 => ?_)
        exact q_ire o_W_please_120 rfl h55
      · have h59 := h43.2.2 c
        refine q_lookup (tgt := 121) (off := 54) o_W_please_67 (by decide) (by simp [Op.lookupswitch.offset, Ne.symm c.1, Ne.symm c.2]) (by decide) ?_
        refine q_aload_n o_W_please_121 rfl ?_
        refine q2_getR hs45 o_W_please_122 f_W_37 rfl (fz_0_3 hs45) ?_
        refine q_iload_n o_W_please_125 rfl ?_
        refine q_iload_n o_W_please_126 rfl ?_
        refine q_iconst (v := 2) o_W_please_127 (by decide) ?_
        refine q_isub o_W_please_128 ?_
        refine q2_callVi _ (a := 5) (As := [.int x46, .int (p0 - 2)]) (st := []) hs45 o_W_please_129 k_W_269 rfl rfl (Nat.le_of_ble_eq_true rfl) h59 (fun x63 σ61 hs62 h60 => ?_)
        exact q_ire o_W_please_132 rfl h60
    · have h64 := h32.2 c33
      refine q_iload_n o_W_please_9 rfl ?_
      refine q_iconst (v := 2) o_W_please_10 (by decide) ?_
      refine q_icmp_lt o_W_please_11 (fun c65 => ?_) (fun c65 => ?_)
      · have h66 := h64.1 c65
        refine q_iconst (v := 0) o_W_please_28 (by decide) ?_
        refine q2_istn (ls' := [some (.ref 0), some (.int p0), some (.int 0), none]) o_W_please_29 (Nat.le_of_ble_eq_true rfl) rfl ?_
        refine q_iload_n o_W_please_30 rfl ?_
        refine q_if_ne o_W_please_31 (fun c67 => absurd c67 (by decide)) (fun _ => ?_)
        refine q_iconst (v := (-1)) o_W_please_34 (by decide) ?_
        exact q_ire o_W_please_35 rfl h66
      · have h68 := h64.2 c65
        refine q_aload_n o_W_please_14 rfl ?_
        refine q_iload_n o_W_please_15 rfl ?_
        refine q_iconst (v := 2) o_W_please_16 (by decide) ?_
        refine q_isub o_W_please_17 ?_
        refine q2_callVi _ (a := 0) (As := [.int (p0 - 2)]) (st := []) hs o_W_please_18 k_W_134 rfl rfl (Nat.le_of_ble_eq_true rfl) h68 (fun x72 σ70 hs71 h69 => ?_)
        have hJ : ∀ vJ : Int32, vJ = (if x72 = 0 then (0 : Int32) else (1 : Int32)) → q_At G X_W_please (d + 1) 0 0 29 [some (.ref 0), some (.int p0), none, none] [.int vJ] σ70 Q := by
          intro vJ eJ
          rw [eJ]
          clear eJ vJ
          refine q2_istn (ls' := [some (.ref 0), some (.int p0), some (.int (if x72 = 0 then (0 : Int32) else (1 : Int32))), none]) o_W_please_29 (Nat.le_of_ble_eq_true rfl) rfl ?_
          refine q_iload_n o_W_please_30 rfl ?_
          refine q_if_ne o_W_please_31 (fun c74 => ?_) (fun c74 => ?_)
          · have h75 := h69.1 c74
            refine q_aload_n o_W_please_36 rfl ?_
            refine q2_getR hs71 o_W_please_37 f_W_37 rfl (fz_0_3 hs71) ?_
            refine q_aload_n o_W_please_40 rfl ?_
            obtain ⟨t77, eh76, bh76, h76⟩ := h75
            refine q2_getR hs71 o_W_please_41 f_W_83 rfl eh76 ?_
            refine q2_callVv _ (a := 5) (As := [.ref t77]) (st := []) hs71 o_W_please_44 k_W_245 rfl rfl (Nat.le_of_ble_eq_true rfl) h76 (fun σ79 hs80 h78 => ?_)
            refine q_aload_n o_W_please_47 rfl ?_
            refine q2_getR hs80 o_W_please_48 f_W_37 rfl (fz_0_3 hs80) ?_
            refine q_aload_n o_W_please_51 rfl ?_
            obtain ⟨t82, eh81, bh81, h81⟩ := h78
            refine q2_getR hs80 o_W_please_52 f_W_83 rfl eh81 ?_
            refine q_aload_n o_W_please_55 rfl ?_
            refine q2_getR hs80 o_W_please_56 f_W_58 rfl (fz_0_6 hs80) ?_
            refine q2_getR hs80 o_W_please_59 f_W_119 rfl (fz_15_0 hs80) ?_
            refine q2_callVi _ (a := 5) (As := [.ref t82, .ref 16]) (st := []) hs80 o_W_please_62 k_W_272 rfl rfl (Nat.le_of_ble_eq_true rfl) h81 (fun x86 σ84 hs85 h83 => ?_)
            refine q2_istn (ls' := [some (.ref 0), some (.int p0), some (.int (if x72 = 0 then (0 : Int32) else (1 : Int32))), some (.int x86)]) o_W_please_65 (Nat.le_of_ble_eq_true rfl) rfl ?_
            refine q_iload_n o_W_please_66 rfl ?_
            rcases (by omega : p0.toInt = 0 ∨ p0.toInt = 1 ∨ (¬ p0.toInt = 0 ∧ ¬ p0.toInt = 1)) with c | c | c
            · have h87 := h83.1 c
              refine q_lookup (tgt := 92) (off := 25) o_W_please_67 (by decide) (by simp [Op.lookupswitch.offset, c]) (by decide) ?_
              refine q_aload_n o_W_please_92 rfl ?_
              refine q2_getR hs85 o_W_please_93 f_W_37 rfl (fz_0_3 hs85) ?_
              refine q_iload_n o_W_please_96 rfl ?_
              refine q2_callVi _ (a := 5) (As := [.int x86]) (st := []) hs85 o_W_please_97 k_W_275 rfl rfl (Nat.le_of_ble_eq_true rfl) h87 (fun x91 σ89 hs90 h88 => ?_)
              exact q_ire o_W_please_100 rfl h88
            · have h92 := h83.2.1 c
              refine q_lookup (tgt := 101) (off := 34) o_W_please_67 (by decide) (by simp [Op.lookupswitch.offset, c]) (by decide) ?_
              refine q_aload_n o_W_please_101 rfl ?_
              refine q2_getR hs85 o_W_please_102 f_W_37 rfl (fz_0_3 hs85) ?_
              refine q_iload_n o_W_please_105 rfl ?_
              refine q_aload_n o_W_please_106 rfl ?_
              obtain ⟨t94, eh93, bh93, h93⟩ := h92
              refine q2_getR hs85 o_W_please_107 f_W_83 rfl eh93 ?_
              refine q_aload_n o_W_please_110 rfl ?_
              refine q2_getR hs85 o_W_please_111 f_W_58 rfl (fz_0_6 hs85) ?_
              refine q2_getR hs85 o_W_please_114 f_W_119 rfl (fz_15_0 hs85) ?_
              refine q2_callVi _ (a := 5) (As := [.int x86, .ref t94, .ref 16]) (st := []) hs85 o_W_please_117 k_W_265 rfl rfl (Nat.le_of_ble_eq_true rfl) h93 (fun x98 σ96 hs97 h95 => ?_)
              exact q_ire o_W_please_120 rfl h95
            · have h99 := h83.2.2 c
              refine q_lookup (tgt := 121) (off := 54) o_W_please_67 (by decide) (by simp [Op.lookupswitch.offset, Ne.symm c.1, Ne.symm c.2]) (by decide) ?_
              refine q_aload_n o_W_please_121 rfl ?_
              refine q2_getR hs85 o_W_please_122 f_W_37 rfl (fz_0_3 hs85) ?_
              refine q_iload_n o_W_please_125 rfl ?_
              refine q_iload_n o_W_please_126 rfl ?_
              refine q_iconst (v := 2) o_W_please_127 (by decide) ?_
              refine q_isub o_W_please_128 ?_
              refine q2_callVi _ (a := 5) (As := [.int x86, .int (p0 - 2)]) (st := []) hs85 o_W_please_129 k_W_269 rfl rfl (Nat.le_of_ble_eq_true rfl) h99 (fun x103 σ101 hs102 h100 => ?_)
              exact q_ire o_W_please_132 rfl h100
          · have h104 := h69.2 c74
            refine q_iconst (v := (-1)) o_W_please_34 (by decide) ?_
            exact q_ire o_W_please_35 rfl h104
        refine q_if_eq o_W_please_21 (fun c73 => ?_) (fun c73 => ?_)
        · refine q_iconst (v := 0) o_W_please_28 (by decide) ?_
          exact hJ _ (Eq.symm (if_pos c73))
        · refine q_iconst (v := 1) o_W_please_24 (by decide) ?_
          refine q_goto o_W_please_25 ?_
          exact hJ _ (Eq.symm (if_neg c73))

set_option maxRecDepth 20000 in
theorem v_W_quiet_0 {G : q_G} {d : Nat} {σ : q_S} {Q : Option Value → q_S → Prop} {p0 : Int32}  (hs : q_Sh σ) (h : ((p0 = (-1) → (∃ t4, q_R σ 0 12 = some t4 ∧ q_isTw t4 ∧ q_Call G d 0 0 X_Wy_learn [.ref 5, .ref t4] σ (q_rv (fun σ6 => q_Call G d 0 0 X_Wy_firstQuiet [.ref 5] σ6 (q_ri (fun x11 σ9 => ((¬ p0 = (-1) → q_Call G d 0 0 X_Wy_houseOf [.ref 5, .int x11, .int p0] σ9 (q_ri (fun x17 σ15 => Q (some (.int x17)) σ15))) ∧ (p0 = (-1) → q_Call G d 0 0 X_Wy_feltByAll [.ref 5, .int x11] σ9 (q_ri (fun x22 σ20 => Q (some (.int x22)) σ20)))))))))) ∧ (¬ p0 = (-1) → q_Call G d 0 0 X_W_isFamily [.ref 0, .int p0] σ (q_ri (fun x27 σ25 => ((¬ x27 = 0 → (∃ t31, q_R σ25 0 12 = some t31 ∧ q_isTw t31 ∧ q_Call G d 0 0 X_Wy_learn [.ref 5, .ref t31] σ25 (q_rv (fun σ33 => q_Call G d 0 0 X_Wy_firstQuiet [.ref 5] σ33 (q_ri (fun x38 σ36 => ((¬ p0 = (-1) → q_Call G d 0 0 X_Wy_houseOf [.ref 5, .int x38, .int p0] σ36 (q_ri (fun x44 σ42 => Q (some (.int x44)) σ42))) ∧ (p0 = (-1) → q_Call G d 0 0 X_Wy_feltByAll [.ref 5, .int x38] σ36 (q_ri (fun x49 σ47 => Q (some (.int x49)) σ47)))))))))) ∧ (x27 = 0 → Q (some (.int (-2))) σ25))))))) : q_At G X_W_quiet (d + 1) 0 0 0 [some (.ref 0), some (.int p0), none] [] σ Q := by
  refine q_iload_n o_W_quiet_0 rfl ?_
  refine q_iconst (v := (-1)) o_W_quiet_1 (by decide) ?_
  refine q_icmp_eq o_W_quiet_2 (fun c1 => ?_) (fun c1 => ?_)
  · have h2 := h.1 c1
    refine q_aload_n o_W_quiet_16 rfl ?_
    refine q2_getR hs o_W_quiet_17 f_W_37 rfl (fz_0_3 hs) ?_
    refine q_aload_n o_W_quiet_20 rfl ?_
    obtain ⟨t4, eh3, bh3, h3⟩ := h2
    refine q2_getR hs o_W_quiet_21 f_W_83 rfl eh3 ?_
    refine q2_callVv _ (a := 5) (As := [.ref t4]) (st := []) hs o_W_quiet_24 k_W_245 rfl rfl (Nat.le_of_ble_eq_true rfl) h3 (fun σ6 hs7 h5 => ?_)
    refine q_aload_n o_W_quiet_27 rfl ?_
    refine q2_getR hs7 o_W_quiet_28 f_W_37 rfl (fz_0_3 hs7) ?_
    refine q2_callVi _ (a := 5) (As := []) (st := []) hs7 o_W_quiet_31 k_W_278 rfl rfl (Nat.le_of_ble_eq_true rfl) h5 (fun x11 σ9 hs10 h8 => ?_)
    refine q2_istn (ls' := [some (.ref 0), some (.int p0), some (.int x11)]) o_W_quiet_34 (Nat.le_of_ble_eq_true rfl) rfl ?_
    refine q_iload_n o_W_quiet_35 rfl ?_
    refine q_iconst (v := (-1)) o_W_quiet_36 (by decide) ?_
    refine q_icmp_ne o_W_quiet_37 (fun c12 => ?_) (fun c12 => ?_)
    · have h13 := h8.1 c12
      refine q_aload_n o_W_quiet_51 rfl ?_
      refine q2_getR hs10 o_W_quiet_52 f_W_37 rfl (fz_0_3 hs10) ?_
      refine q_iload_n o_W_quiet_55 rfl ?_
      refine q_iload_n o_W_quiet_56 rfl ?_
      refine q2_callVi _ (a := 5) (As := [.int x11, .int p0]) (st := []) hs10 o_W_quiet_57 k_W_269 rfl rfl (Nat.le_of_ble_eq_true rfl) h13 (fun x17 σ15 hs16 h14 => ?_)
      exact q_ire o_W_quiet_60 rfl h14
    · have h18 := h8.2 c12
      refine q_aload_n o_W_quiet_40 rfl ?_
      refine q2_getR hs10 o_W_quiet_41 f_W_37 rfl (fz_0_3 hs10) ?_
      refine q_iload_n o_W_quiet_44 rfl ?_
      refine q2_callVi _ (a := 5) (As := [.int x11]) (st := []) hs10 o_W_quiet_45 k_W_281 rfl rfl (Nat.le_of_ble_eq_true rfl) h18 (fun x22 σ20 hs21 h19 => ?_)
      refine q_goto o_W_quiet_48 ?_
      exact q_ire o_W_quiet_60 rfl h19
  · have h23 := h.2 c1
    refine q_aload_n o_W_quiet_5 rfl ?_
    refine q_iload_n o_W_quiet_6 rfl ?_
    refine q2_callVi _ (a := 0) (As := [.int p0]) (st := []) hs o_W_quiet_7 k_W_134 rfl rfl (Nat.le_of_ble_eq_true rfl) h23 (fun x27 σ25 hs26 h24 => ?_)
    refine q_if_ne o_W_quiet_10 (fun c28 => ?_) (fun c28 => ?_)
    · have h29 := h24.1 c28
      refine q_aload_n o_W_quiet_16 rfl ?_
      refine q2_getR hs26 o_W_quiet_17 f_W_37 rfl (fz_0_3 hs26) ?_
      refine q_aload_n o_W_quiet_20 rfl ?_
      obtain ⟨t31, eh30, bh30, h30⟩ := h29
      refine q2_getR hs26 o_W_quiet_21 f_W_83 rfl eh30 ?_
      refine q2_callVv _ (a := 5) (As := [.ref t31]) (st := []) hs26 o_W_quiet_24 k_W_245 rfl rfl (Nat.le_of_ble_eq_true rfl) h30 (fun σ33 hs34 h32 => ?_)
      refine q_aload_n o_W_quiet_27 rfl ?_
      refine q2_getR hs34 o_W_quiet_28 f_W_37 rfl (fz_0_3 hs34) ?_
      refine q2_callVi _ (a := 5) (As := []) (st := []) hs34 o_W_quiet_31 k_W_278 rfl rfl (Nat.le_of_ble_eq_true rfl) h32 (fun x38 σ36 hs37 h35 => ?_)
      refine q2_istn (ls' := [some (.ref 0), some (.int p0), some (.int x38)]) o_W_quiet_34 (Nat.le_of_ble_eq_true rfl) rfl ?_
      refine q_iload_n o_W_quiet_35 rfl ?_
      refine q_iconst (v := (-1)) o_W_quiet_36 (by decide) ?_
      refine q_icmp_ne o_W_quiet_37 (fun c39 => ?_) (fun c39 => ?_)
      · have h40 := h35.1 c39
        refine q_aload_n o_W_quiet_51 rfl ?_
        refine q2_getR hs37 o_W_quiet_52 f_W_37 rfl (fz_0_3 hs37) ?_
        refine q_iload_n o_W_quiet_55 rfl ?_
        refine q_iload_n o_W_quiet_56 rfl ?_
        refine q2_callVi _ (a := 5) (As := [.int x38, .int p0]) (st := []) hs37 o_W_quiet_57 k_W_269 rfl rfl (Nat.le_of_ble_eq_true rfl) h40 (fun x44 σ42 hs43 h41 => ?_)
        exact q_ire o_W_quiet_60 rfl h41
      · have h45 := h35.2 c39
        refine q_aload_n o_W_quiet_40 rfl ?_
        refine q2_getR hs37 o_W_quiet_41 f_W_37 rfl (fz_0_3 hs37) ?_
        refine q_iload_n o_W_quiet_44 rfl ?_
        refine q2_callVi _ (a := 5) (As := [.int x38]) (st := []) hs37 o_W_quiet_45 k_W_281 rfl rfl (Nat.le_of_ble_eq_true rfl) h45 (fun x49 σ47 hs48 h46 => ?_)
        refine q_goto o_W_quiet_48 ?_
        exact q_ire o_W_quiet_60 rfl h46
    · have h50 := h24.2 c28
      refine q_bipush (v := (-2)) o_W_quiet_13 (by decide) ?_
      exact q_ire o_W_quiet_15 rfl h50

set_option maxRecDepth 20000 in
theorem v_W_rests_0 {G : q_G} {d : Nat} {σ : q_S} {Q : Option Value → q_S → Prop} {p0 : Int32} {p1 : Int32} {p2 : Int32}  (hs : q_Sh σ) (h : q_Call G d 0 0 X_W_areTwo [.ref 0, .int p0, .int p1] σ (q_ri (fun x4 σ2 => ((x4 = 0 → Q (some (.retAddr 159)) σ2) ∧ (¬ x4 = 0 → ((p2 < (-1) → Q (some (.retAddr 159)) σ2) ∧ (¬ p2 < (-1) → (∃ t12, q_R σ2 0 12 = some t12 ∧ q_isTw t12 ∧ q_Call G d 0 0 X_Tw_areNeighbours [.ref t12, .ref 16, .int p0, .int p1] σ2 (q_ri (fun x16 σ14 => ((¬ x16 = 0 → q_At G X_W_rests (d + 1) 0 0 47 [some (.ref 0), some (.int p0), some (.int p1), some (.int p2), some (.int 0), some (.int 0)] [] σ14 Q) ∧ (x16 = 0 → Q (some (.retAddr 159)) σ14)))))))))))) : q_At G X_W_rests (d + 1) 0 0 0 [some (.ref 0), some (.int p0), some (.int p1), some (.int p2), none, none] [] σ Q := by
  refine q_aload_n o_W_rests_0 rfl ?_
  refine q_iload_n o_W_rests_1 rfl ?_
  refine q_iload_n o_W_rests_2 rfl ?_
  refine q2_callVi _ (a := 0) (As := [.int p0, .int p1]) (st := []) hs o_W_rests_3 k_W_162 rfl rfl (Nat.le_of_ble_eq_true rfl) h (fun x4 σ2 hs3 h1 => ?_)
  refine q_if_eq o_W_rests_6 (fun c5 => ?_) (fun c5 => ?_)
  · have h6 := h1.1 c5
    exact q_thr o_W_rests_33 h6
  · have h7 := h1.2 c5
    refine q_iload_n o_W_rests_9 rfl ?_
    refine q_iconst (v := (-1)) o_W_rests_10 (by decide) ?_
    refine q_icmp_lt o_W_rests_11 (fun c8 => ?_) (fun c8 => ?_)
    · have h9 := h7.1 c8
      exact q_thr o_W_rests_33 h9
    · have h10 := h7.2 c8
      refine q_aload_n o_W_rests_14 rfl ?_
      obtain ⟨t12, eh11, bh11, h11⟩ := h10
      refine q2_getR hs3 o_W_rests_15 f_W_83 rfl eh11 ?_
      refine q_aload_n o_W_rests_18 rfl ?_
      refine q2_getR hs3 o_W_rests_19 f_W_58 rfl (fz_0_6 hs3) ?_
      refine q2_getR hs3 o_W_rests_22 f_W_119 rfl (fz_15_0 hs3) ?_
      refine q_iload_n o_W_rests_25 rfl ?_
      refine q_iload_n o_W_rests_26 rfl ?_
      refine q2_callVi _ (a := t12) (As := [.ref 16, .int p0, .int p1]) (st := []) hs3 o_W_rests_27 k_W_284 (kd_Tw_0 bh11) rfl (Nat.le_of_ble_eq_true rfl) h11 (fun x16 σ14 hs15 h13 => ?_)
      refine q_if_ne o_W_rests_30 (fun c17 => ?_) (fun c17 => ?_)
      · have h18 := h13.1 c17
        refine q_iconst (v := 0) o_W_rests_41 (by decide) ?_
        refine q2_ist (ls' := [some (.ref 0), some (.int p0), some (.int p1), some (.int p2), some (.int 0), none]) o_W_rests_42 (Nat.le_of_ble_eq_true rfl) rfl ?_
        refine q_iconst (v := 0) o_W_rests_44 (by decide) ?_
        refine q2_ist (ls' := [some (.ref 0), some (.int p0), some (.int p1), some (.int p2), some (.int 0), some (.int 0)]) o_W_rests_45 (Nat.le_of_ble_eq_true rfl) rfl ?_
        exact h18
      · have h19 := h13.2 c17
        exact q_thr o_W_rests_33 h19

set_option maxRecDepth 20000 in
theorem v_W_rests_47 {G : q_G} {d : Nat} {σ : q_S} {Q : Option Value → q_S → Prop} {p0 : Int32} {p1 : Int32} {p2 : Int32} {l4 : Int32} {l5 : Int32}  (hs : q_Sh σ) (h : ((4 ≤ l5 → ((p2 = (-1) → Q (some (.int l4)) σ) ∧ (¬ p2 = (-1) → Q (some (.retAddr 159)) σ))) ∧ (¬ 4 ≤ l5 → (∃ t8, q_R σ 0 12 = some t8 ∧ q_isTw t8 ∧ q_Call G d 0 0 X_Tw_isAtRest [.ref t8, .int p0, .int p1, .int l5] σ (q_ri (fun x12 σ10 => ((x12 = 0 → q_At G X_W_rests (d + 1) 0 0 47 [some (.ref 0), some (.int p0), some (.int p1), some (.int p2), some (.int l4), some (.int (l5 + 1))] [] σ10 Q) ∧ (¬ x12 = 0 → ((¬ l4 = p2 → q_At G X_W_rests (d + 1) 0 0 47 [some (.ref 0), some (.int p0), some (.int p1), some (.int p2), some (.int (l4 + 1)), some (.int (l5 + 1))] [] σ10 Q) ∧ (l4 = p2 → Q (some (.int l5)) σ10)))))))))) : q_At G X_W_rests (d + 1) 0 0 47 [some (.ref 0), some (.int p0), some (.int p1), some (.int p2), some (.int l4), some (.int l5)] [] σ Q := by
  refine q_iload o_W_rests_47 rfl ?_
  refine q_iconst (v := 4) o_W_rests_49 (by decide) ?_
  refine q_icmp_ge o_W_rests_50 (fun c1 => ?_) (fun c1 => ?_)
  · have h2 := h.1 c1
    refine q_iload_n o_W_rests_85 rfl ?_
    refine q_iconst (v := (-1)) o_W_rests_86 (by decide) ?_
    refine q_icmp_eq o_W_rests_87 (fun c3 => ?_) (fun c3 => ?_)
    · have h4 := h2.1 c3
      refine q_iload o_W_rests_98 rfl ?_
      exact q_ire o_W_rests_100 rfl h4
    · have h5 := h2.2 c3
      exact q_thr o_W_rests_90 h5
  · have h6 := h.2 c1
    refine q_aload_n o_W_rests_53 rfl ?_
    obtain ⟨t8, eh7, bh7, h7⟩ := h6
    refine q2_getR hs o_W_rests_54 f_W_83 rfl eh7 ?_
    refine q_iload_n o_W_rests_57 rfl ?_
    refine q_iload_n o_W_rests_58 rfl ?_
    refine q_iload o_W_rests_59 rfl ?_
    refine q2_callVi _ (a := t8) (As := [.int p0, .int p1, .int l5]) (st := []) hs o_W_rests_61 k_W_288 (kd_Tw_0 bh7) rfl (Nat.le_of_ble_eq_true rfl) h7 (fun x12 σ10 hs11 h9 => ?_)
    refine q_if_eq o_W_rests_64 (fun c13 => ?_) (fun c13 => ?_)
    · have h14 := h9.1 c13
      refine q2_inc (v := (l5 + 1)) (ls' := [some (.ref 0), some (.int p0), some (.int p1), some (.int p2), some (.int l4), some (.int (l5 + 1))]) o_W_rests_79 rfl rfl (Nat.le_of_ble_eq_true rfl) rfl ?_
      refine q_goto o_W_rests_82 ?_
      exact h14
    · have h15 := h9.2 c13
      refine q_iload o_W_rests_67 rfl ?_
      refine q_iload_n o_W_rests_69 rfl ?_
      refine q_icmp_ne o_W_rests_70 (fun c16 => ?_) (fun c16 => ?_)
      · have h17 := h15.1 c16
        refine q2_inc (v := (l4 + 1)) (ls' := [some (.ref 0), some (.int p0), some (.int p1), some (.int p2), some (.int (l4 + 1)), some (.int l5)]) o_W_rests_76 rfl rfl (Nat.le_of_ble_eq_true rfl) rfl ?_
        refine q2_inc (v := (l5 + 1)) (ls' := [some (.ref 0), some (.int p0), some (.int p1), some (.int p2), some (.int (l4 + 1)), some (.int (l5 + 1))]) o_W_rests_79 rfl rfl (Nat.le_of_ble_eq_true rfl) rfl ?_
        refine q_goto o_W_rests_82 ?_
        exact h17
      · have h18 := h15.2 c16
        refine q_iload o_W_rests_73 rfl ?_
        exact q_ire o_W_rests_75 rfl h18

set_option maxRecDepth 20000 in
theorem v_W_tale_0 {G : q_G} {d : Nat} {σ : q_S} {Q : Option Value → q_S → Prop} {p0 : Int32} {p1 : Int32} {p2 : Int32}  (hs : q_Sh σ) (h : q_Call G d 0 0 X_W_areTwo [.ref 0, .int p0, .int p1] σ (q_ri (fun x4 σ2 => ((x4 = 0 → Q (some (.int 0)) σ2) ∧ (¬ x4 = 0 → (((q_I σ2 14 2) < 10 → q_Call G d 0 0 X_W_pairBit [.int p0, .int p1] σ2 (q_rl (fun x13 σ11 => q_Call G d 0 0 X_Tl_add [.ref 14, .long x13, .int p2] σ11 (q_rv (fun σ15 => Q (some (.int 1)) σ15))))) ∧ (¬ (q_I σ2 14 2) < 10 → Q (some (.int 0)) σ2))))))) : q_At G X_W_tale (d + 1) 0 0 0 [some (.ref 0), some (.int p0), some (.int p1), some (.int p2)] [] σ Q := by
  refine q_aload_n o_W_tale_0 rfl ?_
  refine q_iload_n o_W_tale_1 rfl ?_
  refine q_iload_n o_W_tale_2 rfl ?_
  refine q2_callVi _ (a := 0) (As := [.int p0, .int p1]) (st := []) hs o_W_tale_3 k_W_162 rfl rfl (Nat.le_of_ble_eq_true rfl) h (fun x4 σ2 hs3 h1 => ?_)
  refine q_if_eq o_W_tale_6 (fun c5 => ?_) (fun c5 => ?_)
  · have h6 := h1.1 c5
    refine q_iconst (v := 0) o_W_tale_21 (by decide) ?_
    exact q_zre o_W_tale_22 rfl rfl h6
  · have h7 := h1.2 c5
    refine q_aload_n o_W_tale_9 rfl ?_
    refine q2_getR hs3 o_W_tale_10 f_W_51 rfl (fz_0_5 hs3) ?_
    refine q2_getI hs3 o_W_tale_13 f_W_291 rfl ?_
    refine q_bipush (v := 10) o_W_tale_16 (by decide) ?_
    refine q_icmp_lt o_W_tale_18 (fun c8 => ?_) (fun c8 => ?_)
    · have h9 := h7.1 c8
      refine q_aload_n o_W_tale_23 rfl ?_
      refine q2_getR hs3 o_W_tale_24 f_W_51 rfl (fz_0_5 hs3) ?_
      refine q_iload_n o_W_tale_27 rfl ?_
      refine q_iload_n o_W_tale_28 rfl ?_
      refine q2_callSl _ (As := [.int p0, .int p1]) (st := [.ref 14]) hs3 o_W_tale_29 k_W_294 rfl (Nat.le_of_ble_eq_true rfl) h9 (fun x13 σ11 hs12 h10 => ?_)
      refine q_iload_n o_W_tale_32 rfl ?_
      refine q2_callVv _ (a := 14) (As := [.long x13, .int p2]) (st := []) hs12 o_W_tale_33 k_W_298 rfl rfl (Nat.le_of_ble_eq_true rfl) h10 (fun σ15 hs16 h14 => ?_)
      refine q_iconst (v := 1) o_W_tale_36 (by decide) ?_
      exact q_zre o_W_tale_37 rfl rfl h14
    · have h17 := h7.2 c8
      refine q_iconst (v := 0) o_W_tale_21 (by decide) ?_
      exact q_zre o_W_tale_22 rfl rfl h17

set_option maxRecDepth 20000 in
theorem v_W_how_0 {G : q_G} {d : Nat} {σ : q_S} {Q : Option Value → q_S → Prop}   (hs : q_Sh σ) (h : (∃ t2, q_R σ 0 12 = some t2 ∧ q_isTw t2 ∧ q_Call G d 0 0 X_Wy_learn [.ref 5, .ref t2] σ (q_rv (fun σ4 => q_Call G d 0 0 X_Wy_agreeing [.ref 5, .ref 14, .long 0] σ4 (q_ri (fun x9 σ7 => Q (some (.int x9)) σ7)))))) : q_At G X_W_how (d + 1) 0 0 0 [some (.ref 0)] [] σ Q := by
  refine q_aload_n o_W_how_0 rfl ?_
  refine q2_getR hs o_W_how_1 f_W_37 rfl (fz_0_3 hs) ?_
  refine q_aload_n o_W_how_4 rfl ?_
  obtain ⟨t2, eh1, bh1, h1⟩ := h
  refine q2_getR hs o_W_how_5 f_W_83 rfl eh1 ?_
  refine q2_callVv _ (a := 5) (As := [.ref t2]) (st := []) hs o_W_how_8 k_W_245 rfl rfl (Nat.le_of_ble_eq_true rfl) h1 (fun σ4 hs5 h3 => ?_)
  refine q_aload_n o_W_how_11 rfl ?_
  refine q2_getR hs5 o_W_how_12 f_W_37 rfl (fz_0_3 hs5) ?_
  refine q_aload_n o_W_how_15 rfl ?_
  refine q2_getR hs5 o_W_how_16 f_W_51 rfl (fz_0_5 hs5) ?_
  refine q_lconst (v := 0) o_W_how_19 (by decide) ?_
  refine q2_callVi _ (a := 5) (As := [.ref 14, .long 0]) (st := []) hs5 o_W_how_20 k_W_302 rfl rfl (Nat.le_of_ble_eq_true rfl) h3 (fun x9 σ7 hs8 h6 => ?_)
  exact q_ire o_W_how_23 rfl h6

set_option maxRecDepth 20000 in
theorem v_W_were_0 {G : q_G} {d : Nat} {σ : q_S} {Q : Option Value → q_S → Prop} {p0 : Int32} {p1 : Int32}  (hs : q_Sh σ) (h : q_Call G d 0 0 X_W_areTwo [.ref 0, .int p0, .int p1] σ (q_ri (fun x4 σ2 => ((¬ x4 = 0 → (∃ t8, q_R σ2 0 12 = some t8 ∧ q_isTw t8 ∧ q_Call G d 0 0 X_Wy_learn [.ref 5, .ref t8] σ2 (q_rv (fun σ10 => q_Call G d 0 0 X_Wy_agreeing [.ref 5, .ref 14, .long 0] σ10 (q_ri (fun x15 σ13 => q_Call G d 0 0 X_W_pairBit [.int p0, .int p1] σ13 (q_rl (fun x19 σ17 => q_Call G d 0 0 X_Wy_agreeing [.ref 5, .ref 14, .long x19] σ17 (q_ri (fun x23 σ21 => ((¬ x15 = 0 → Q (some (.int (if x23 = 0 then (0 : Int32) else (if x23 = x15 then (1 : Int32) else (2 : Int32))))) σ21) ∧ (x15 = 0 → Q (some (.int (-1))) σ21)))))))))))) ∧ (x4 = 0 → Q (some (.int (-1))) σ2))))) : q_At G X_W_were (d + 1) 0 0 0 [some (.ref 0), some (.int p0), some (.int p1), none, none] [] σ Q := by
  refine q_aload_n o_W_were_0 rfl ?_
  refine q_iload_n o_W_were_1 rfl ?_
  refine q_iload_n o_W_were_2 rfl ?_
  refine q2_callVi _ (a := 0) (As := [.int p0, .int p1]) (st := []) hs o_W_were_3 k_W_162 rfl rfl (Nat.le_of_ble_eq_true rfl) h (fun x4 σ2 hs3 h1 => ?_)
  refine q_if_ne o_W_were_6 (fun c5 => ?_) (fun c5 => ?_)
  · have h6 := h1.1 c5
    refine q_aload_n o_W_were_11 rfl ?_
    refine q2_getR hs3 o_W_were_12 f_W_37 rfl (fz_0_3 hs3) ?_
    refine q_aload_n o_W_were_15 rfl ?_
    obtain ⟨t8, eh7, bh7, h7⟩ := h6
    refine q2_getR hs3 o_W_were_16 f_W_83 rfl eh7 ?_
    refine q2_callVv _ (a := 5) (As := [.ref t8]) (st := []) hs3 o_W_were_19 k_W_245 rfl rfl (Nat.le_of_ble_eq_true rfl) h7 (fun σ10 hs11 h9 => ?_)
    refine q_aload_n o_W_were_22 rfl ?_
    refine q2_getR hs11 o_W_were_23 f_W_37 rfl (fz_0_3 hs11) ?_
    refine q_aload_n o_W_were_26 rfl ?_
    refine q2_getR hs11 o_W_were_27 f_W_51 rfl (fz_0_5 hs11) ?_
    refine q_lconst (v := 0) o_W_were_30 (by decide) ?_
    refine q2_callVi _ (a := 5) (As := [.ref 14, .long 0]) (st := []) hs11 o_W_were_31 k_W_302 rfl rfl (Nat.le_of_ble_eq_true rfl) h9 (fun x15 σ13 hs14 h12 => ?_)
    refine q2_istn (ls' := [some (.ref 0), some (.int p0), some (.int p1), some (.int x15), none]) o_W_were_34 (Nat.le_of_ble_eq_true rfl) rfl ?_
    refine q_aload_n o_W_were_35 rfl ?_
    refine q2_getR hs14 o_W_were_36 f_W_37 rfl (fz_0_3 hs14) ?_
    refine q_aload_n o_W_were_39 rfl ?_
    refine q2_getR hs14 o_W_were_40 f_W_51 rfl (fz_0_5 hs14) ?_
    refine q_iload_n o_W_were_43 rfl ?_
    refine q_iload_n o_W_were_44 rfl ?_
    refine q2_callSl _ (As := [.int p0, .int p1]) (st := [.ref 14, .ref 5]) hs14 o_W_were_45 k_W_294 rfl (Nat.le_of_ble_eq_true rfl) h12 (fun x19 σ17 hs18 h16 => ?_)
    refine q2_callVi _ (a := 5) (As := [.ref 14, .long x19]) (st := []) hs18 o_W_were_48 k_W_302 rfl rfl (Nat.le_of_ble_eq_true rfl) h16 (fun x23 σ21 hs22 h20 => ?_)
    refine q2_ist (ls' := [some (.ref 0), some (.int p0), some (.int p1), some (.int x15), some (.int x23)]) o_W_were_51 (Nat.le_of_ble_eq_true rfl) rfl ?_
    refine q_iload_n o_W_were_53 rfl ?_
    refine q_if_ne o_W_were_54 (fun c24 => ?_) (fun c24 => ?_)
    · have h25 := h20.1 c24
      refine q_iload o_W_were_59 rfl ?_
      have hJ : ∀ vJ : Int32, vJ = (if x23 = 0 then (0 : Int32) else (if x23 = x15 then (1 : Int32) else (2 : Int32))) → q_At G X_W_were (d + 1) 0 0 79 [some (.ref 0), some (.int p0), some (.int p1), some (.int x15), some (.int x23)] [.int vJ] σ21 Q := by
        intro vJ eJ
        rw [eJ]
        clear eJ vJ
        exact q_ire o_W_were_79 rfl h25
      refine q_if_ne o_W_were_61 (fun c26 => ?_) (fun c26 => ?_)
      · refine q_iload o_W_were_68 rfl ?_
        refine q_iload_n o_W_were_70 rfl ?_
        refine q_icmp_ne o_W_were_71 (fun c27 => ?_) (fun c27 => ?_)
        · refine q_iconst (v := 2) o_W_were_78 (by decide) ?_
          exact hJ _ (Eq.symm ((if_neg c26).trans (if_neg c27)))
        · refine q_iconst (v := 1) o_W_were_74 (by decide) ?_
          refine q_goto o_W_were_75 ?_
          exact hJ _ (Eq.symm ((if_neg c26).trans (if_pos c27)))
      · refine q_iconst (v := 0) o_W_were_64 (by decide) ?_
        refine q_goto o_W_were_65 ?_
        exact hJ _ (Eq.symm (if_pos c26))
    · have h28 := h20.2 c24
      refine q_iconst (v := (-1)) o_W_were_57 (by decide) ?_
      exact q_ire o_W_were_58 rfl h28
  · have h29 := h1.2 c5
    refine q_iconst (v := (-1)) o_W_were_9 (by decide) ?_
    exact q_ire o_W_were_10 rfl h29

set_option maxRecDepth 20000 in
theorem v_W_ask_0 {G : q_G} {d : Nat} {σ : q_S} {Q : Option Value → q_S → Prop}   (hs : q_Sh σ) (h : (∃ t2, q_R σ 0 12 = some t2 ∧ q_isTw t2 ∧ q_Call G d 0 0 X_Wy_learn [.ref 5, .ref t2] σ (q_rv (fun σ4 => q_Call G d 0 0 X_Wy_agreeing [.ref 5, .ref 14, .long 0] σ4 (q_ri (fun x9 σ7 => q_At G X_W_ask (d + 1) 0 0 31 [some (.ref 0), some (.int x9), some (.int x9), some (.int (-1)), some (.int 0), none, none, none] [] σ7 Q)))))) : q_At G X_W_ask (d + 1) 0 0 0 [some (.ref 0), none, none, none, none, none, none, none] [] σ Q := by
  refine q_aload_n o_W_ask_0 rfl ?_
  refine q2_getR hs o_W_ask_1 f_W_37 rfl (fz_0_3 hs) ?_
  refine q_aload_n o_W_ask_4 rfl ?_
  obtain ⟨t2, eh1, bh1, h1⟩ := h
  refine q2_getR hs o_W_ask_5 f_W_83 rfl eh1 ?_
  refine q2_callVv _ (a := 5) (As := [.ref t2]) (st := []) hs o_W_ask_8 k_W_245 rfl rfl (Nat.le_of_ble_eq_true rfl) h1 (fun σ4 hs5 h3 => ?_)
  refine q_aload_n o_W_ask_11 rfl ?_
  refine q2_getR hs5 o_W_ask_12 f_W_37 rfl (fz_0_3 hs5) ?_
  refine q_aload_n o_W_ask_15 rfl ?_
  refine q2_getR hs5 o_W_ask_16 f_W_51 rfl (fz_0_5 hs5) ?_
  refine q_lconst (v := 0) o_W_ask_19 (by decide) ?_
  refine q2_callVi _ (a := 5) (As := [.ref 14, .long 0]) (st := []) hs5 o_W_ask_20 k_W_302 rfl rfl (Nat.le_of_ble_eq_true rfl) h3 (fun x9 σ7 hs8 h6 => ?_)
  refine q2_istn (ls' := [some (.ref 0), some (.int x9), none, none, none, none, none, none]) o_W_ask_23 (Nat.le_of_ble_eq_true rfl) rfl ?_
  refine q_iload_n o_W_ask_24 rfl ?_
  refine q2_istn (ls' := [some (.ref 0), some (.int x9), some (.int x9), none, none, none, none, none]) o_W_ask_25 (Nat.le_of_ble_eq_true rfl) rfl ?_
  refine q_iconst (v := (-1)) o_W_ask_26 (by decide) ?_
  refine q2_istn (ls' := [some (.ref 0), some (.int x9), some (.int x9), some (.int (-1)), none, none, none, none]) o_W_ask_27 (Nat.le_of_ble_eq_true rfl) rfl ?_
  refine q_iconst (v := 0) o_W_ask_28 (by decide) ?_
  refine q2_ist (ls' := [some (.ref 0), some (.int x9), some (.int x9), some (.int (-1)), some (.int 0), none, none, none]) o_W_ask_29 (Nat.le_of_ble_eq_true rfl) rfl ?_
  exact h6

set_option maxRecDepth 20000 in
theorem v_W_ask_31 {G : q_G} {d : Nat} {σ : q_S} {Q : Option Value → q_S → Prop} {l1 : Int32} {l2 : Int32} {l3 : Int32} {l4 : Int32}  (hs : q_Sh σ) (h : (∃ t2, q_R σ 0 12 = some t2 ∧ q_isTw t2 ∧ (((q_I σ t2 14) ≤ l4 → Q (some (.int l3)) σ) ∧ (¬ (q_I σ t2 14) ≤ l4 → q_At G X_W_ask (d + 1) 0 0 49 [some (.ref 0), some (.int l1), some (.int l2), some (.int l3), some (.int l4), some (.int (l4 + 1)), none, none] [] σ Q)))) : q_At G X_W_ask (d + 1) 0 0 31 [some (.ref 0), some (.int l1), some (.int l2), some (.int l3), some (.int l4), none, none, none] [] σ Q := by
  refine q_iload o_W_ask_31 rfl ?_
  refine q_aload_n o_W_ask_33 rfl ?_
  obtain ⟨t2, eh1, bh1, h1⟩ := h
  refine q2_getR hs o_W_ask_34 f_W_83 rfl eh1 ?_
  refine q2_getI hs o_W_ask_37 f_W_306 (kd_Tw_0 bh1) ?_
  refine q_icmp_ge o_W_ask_40 (fun c3 => ?_) (fun c3 => ?_)
  · have h4 := h1.1 c3
    refine q_iload_n o_W_ask_122 rfl ?_
    exact q_ire o_W_ask_123 rfl h4
  · have h5 := h1.2 c3
    refine q_iload o_W_ask_43 rfl ?_
    refine q_iconst (v := 1) o_W_ask_45 (by decide) ?_
    refine q_iadd o_W_ask_46 ?_
    refine q2_ist (ls' := [some (.ref 0), some (.int l1), some (.int l2), some (.int l3), some (.int l4), some (.int (l4 + 1)), none, none]) o_W_ask_47 (Nat.le_of_ble_eq_true rfl) rfl ?_
    exact h5

set_option maxRecDepth 20000 in
theorem v_W_ask_49 {G : q_G} {d : Nat} {σ : q_S} {Q : Option Value → q_S → Prop} {l1 : Int32} {l2 : Int32} {l3 : Int32} {l4 : Int32} {l5 : Int32}  (hs : q_Sh σ) (h : (∃ t2, q_R σ 0 12 = some t2 ∧ q_isTw t2 ∧ (((q_I σ t2 14) ≤ l5 → q_At G X_W_ask (d + 1) 0 0 31 [some (.ref 0), some (.int l1), some (.int l2), some (.int l3), some (.int (l4 + 1)), none, none, none] [] σ Q) ∧ (¬ (q_I σ t2 14) ≤ l5 → q_Call G d 0 0 X_W_pairBit [.int l4, .int l5] σ (q_rl (fun x9 σ7 => q_Call G d 0 0 X_Wy_agreeing [.ref 5, .ref 14, .long x9] σ7 (q_ri (fun x13 σ11 => ((l2 ≤ (if x13 < (l1 - x13) then (l1 - x13) else x13) → q_At G X_W_ask (d + 1) 0 0 49 [some (.ref 0), some (.int l1), some (.int l2), some (.int l3), some (.int l4), some (.int (l5 + 1)), none, none] [] σ11 Q) ∧ (¬ l2 ≤ (if x13 < (l1 - x13) then (l1 - x13) else x13) → q_At G X_W_ask (d + 1) 0 0 49 [some (.ref 0), some (.int l1), some (.int (if x13 < (l1 - x13) then (l1 - x13) else x13)), some (.int ((l4 * 6) + l5)), some (.int l4), some (.int (l5 + 1)), none, none] [] σ11 Q)))))))))) : q_At G X_W_ask (d + 1) 0 0 49 [some (.ref 0), some (.int l1), some (.int l2), some (.int l3), some (.int l4), some (.int l5), none, none] [] σ Q := by
  refine q_iload o_W_ask_49 rfl ?_
  refine q_aload_n o_W_ask_51 rfl ?_
  obtain ⟨t2, eh1, bh1, h1⟩ := h
  refine q2_getR hs o_W_ask_52 f_W_83 rfl eh1 ?_
  refine q2_getI hs o_W_ask_55 f_W_306 (kd_Tw_0 bh1) ?_
  refine q_icmp_ge o_W_ask_58 (fun c3 => ?_) (fun c3 => ?_)
  · have h4 := h1.1 c3
    refine q2_inc (v := (l4 + 1)) (ls' := [some (.ref 0), some (.int l1), some (.int l2), some (.int l3), some (.int (l4 + 1)), some (.int l5), none, none]) o_W_ask_116 rfl rfl (Nat.le_of_ble_eq_true rfl) rfl ?_
    refine q_goto o_W_ask_119 ?_
    exact q_weak (ls' := [some (.ref 0), some (.int l1), some (.int l2), some (.int l3), some (.int (l4 + 1)), none, none, none]) (And.intro rfl (And.intro rfl (And.intro rfl (And.intro rfl (And.intro rfl trivial))))) h4
  · have h5 := h1.2 c3
    refine q_aload_n o_W_ask_61 rfl ?_
    refine q2_getR hs o_W_ask_62 f_W_37 rfl (fz_0_3 hs) ?_
    refine q_aload_n o_W_ask_65 rfl ?_
    refine q2_getR hs o_W_ask_66 f_W_51 rfl (fz_0_5 hs) ?_
    refine q_iload o_W_ask_69 rfl ?_
    refine q_iload o_W_ask_71 rfl ?_
    refine q2_callSl _ (As := [.int l4, .int l5]) (st := [.ref 14, .ref 5]) hs o_W_ask_73 k_W_294 rfl (Nat.le_of_ble_eq_true rfl) h5 (fun x9 σ7 hs8 h6 => ?_)
    refine q2_callVi _ (a := 5) (As := [.ref 14, .long x9]) (st := []) hs8 o_W_ask_76 k_W_302 rfl rfl (Nat.le_of_ble_eq_true rfl) h6 (fun x13 σ11 hs12 h10 => ?_)
    refine q2_ist (ls' := [some (.ref 0), some (.int l1), some (.int l2), some (.int l3), some (.int l4), some (.int l5), some (.int x13), none]) o_W_ask_79 (Nat.le_of_ble_eq_true rfl) rfl ?_
    refine q_iload o_W_ask_81 rfl ?_
    refine q_iload_n o_W_ask_83 rfl ?_
    refine q_iload o_W_ask_84 rfl ?_
    refine q_isub o_W_ask_86 ?_
    refine q_max o_W_ask_87 k_W_309 (Nat.le_of_ble_eq_true rfl) ?_
    refine q2_ist (ls' := [some (.ref 0), some (.int l1), some (.int l2), some (.int l3), some (.int l4), some (.int l5), some (.int x13), some (.int (if x13 < (l1 - x13) then (l1 - x13) else x13))]) o_W_ask_90 (Nat.le_of_ble_eq_true rfl) rfl ?_
    refine q_iload o_W_ask_92 rfl ?_
    refine q_iload_n o_W_ask_94 rfl ?_
    refine q_icmp_ge o_W_ask_95 (fun c14 => ?_) (fun c14 => ?_)
    · have h15 := h10.1 c14
      refine q2_inc (v := (l5 + 1)) (ls' := [some (.ref 0), some (.int l1), some (.int l2), some (.int l3), some (.int l4), some (.int (l5 + 1)), some (.int x13), some (.int (if x13 < (l1 - x13) then (l1 - x13) else x13))]) o_W_ask_110 rfl rfl (Nat.le_of_ble_eq_true rfl) rfl ?_
      refine q_goto o_W_ask_113 ?_
      exact q_weak (ls' := [some (.ref 0), some (.int l1), some (.int l2), some (.int l3), some (.int l4), some (.int (l5 + 1)), none, none]) (And.intro rfl (And.intro rfl (And.intro rfl (And.intro rfl (And.intro rfl (And.intro rfl trivial)))))) h15
    · have h16 := h10.2 c14
      refine q_iload o_W_ask_98 rfl ?_
      refine q2_istn (ls' := [some (.ref 0), some (.int l1), some (.int (if x13 < (l1 - x13) then (l1 - x13) else x13)), some (.int l3), some (.int l4), some (.int l5), some (.int x13), some (.int (if x13 < (l1 - x13) then (l1 - x13) else x13))]) o_W_ask_100 (Nat.le_of_ble_eq_true rfl) rfl ?_
      refine q_iload o_W_ask_101 rfl ?_
      refine q_bipush (v := 6) o_W_ask_103 (by decide) ?_
      refine q_imul o_W_ask_105 ?_
      refine q_iload o_W_ask_106 rfl ?_
      refine q_iadd o_W_ask_108 ?_
      refine q2_istn (ls' := [some (.ref 0), some (.int l1), some (.int (if x13 < (l1 - x13) then (l1 - x13) else x13)), some (.int ((l4 * 6) + l5)), some (.int l4), some (.int l5), some (.int x13), some (.int (if x13 < (l1 - x13) then (l1 - x13) else x13))]) o_W_ask_109 (Nat.le_of_ble_eq_true rfl) rfl ?_
      refine q2_inc (v := (l5 + 1)) (ls' := [some (.ref 0), some (.int l1), some (.int (if x13 < (l1 - x13) then (l1 - x13) else x13)), some (.int ((l4 * 6) + l5)), some (.int l4), some (.int (l5 + 1)), some (.int x13), some (.int (if x13 < (l1 - x13) then (l1 - x13) else x13))]) o_W_ask_110 rfl rfl (Nat.le_of_ble_eq_true rfl) rfl ?_
      refine q_goto o_W_ask_113 ?_
      exact q_weak (ls' := [some (.ref 0), some (.int l1), some (.int (if x13 < (l1 - x13) then (l1 - x13) else x13)), some (.int ((l4 * 6) + l5)), some (.int l4), some (.int (l5 + 1)), none, none]) (And.intro rfl (And.intro rfl (And.intro rfl (And.intro rfl (And.intro rfl (And.intro rfl trivial)))))) h16

set_option maxRecDepth 20000 in
theorem v_W_gains_0 {G : q_G} {d : Nat} {σ : q_S} {Q : Option Value → q_S → Prop} {p0 : Int32}  (hs : q_Sh σ) (h : q_Call G d 0 0 X_W_isFamily [.ref 0, .int p0] σ (q_ri (fun x4 σ2 => ((¬ x4 = 0 → q_At G X_W_gains (d + 1) 0 0 20 [some (.ref 0), some (.int p0), some (.int 0), some (.int 0)] [] σ2 Q) ∧ (x4 = 0 → Q (some (.retAddr 159)) σ2))))) : q_At G X_W_gains (d + 1) 0 0 0 [some (.ref 0), some (.int p0), none, none] [] σ Q := by
  refine q_aload_n o_W_gains_0 rfl ?_
  refine q_iload_n o_W_gains_1 rfl ?_
  refine q2_callVi _ (a := 0) (As := [.int p0]) (st := []) hs o_W_gains_2 k_W_134 rfl rfl (Nat.le_of_ble_eq_true rfl) h (fun x4 σ2 hs3 h1 => ?_)
  refine q_if_ne o_W_gains_5 (fun c5 => ?_) (fun c5 => ?_)
  · have h6 := h1.1 c5
    refine q_iconst (v := 0) o_W_gains_16 (by decide) ?_
    refine q2_istn (ls' := [some (.ref 0), some (.int p0), some (.int 0), none]) o_W_gains_17 (Nat.le_of_ble_eq_true rfl) rfl ?_
    refine q_iconst (v := 0) o_W_gains_18 (by decide) ?_
    refine q2_istn (ls' := [some (.ref 0), some (.int p0), some (.int 0), some (.int 0)]) o_W_gains_19 (Nat.le_of_ble_eq_true rfl) rfl ?_
    exact h6
  · have h7 := h1.2 c5
    exact q_thr o_W_gains_8 h7

set_option maxRecDepth 20000 in
theorem v_W_gains_20 {G : q_G} {d : Nat} {σ : q_S} {Q : Option Value → q_S → Prop} {p0 : Int32} {l2 : Int32} {l3 : Int32}  (hs : q_Sh σ) (h : (∃ t2, q_R σ 0 12 = some t2 ∧ q_isTw t2 ∧ (((q_I σ t2 14) ≤ l3 → Q (some (.int l2)) σ) ∧ (¬ (q_I σ t2 14) ≤ l3 → q_Call G d 0 0 X_Li_lapsing [.ref 15, .ref t2, .int p0, .int l3] σ (q_ri (fun x9 σ7 => (∃ t11, q_R σ7 0 12 = some t11 ∧ q_isTw t11 ∧ q_Call G d 0 0 X_Li_lapsing [.ref 15, .ref t11, .int l3, .int p0] σ7 (q_ri (fun x15 σ13 => q_At G X_W_gains (d + 1) 0 0 20 [some (.ref 0), some (.int p0), some (.int (l2 + (x9 - x15))), some (.int (l3 + 1))] [] σ13 Q))))))))) : q_At G X_W_gains (d + 1) 0 0 20 [some (.ref 0), some (.int p0), some (.int l2), some (.int l3)] [] σ Q := by
  refine q_iload_n o_W_gains_20 rfl ?_
  refine q_aload_n o_W_gains_21 rfl ?_
  obtain ⟨t2, eh1, bh1, h1⟩ := h
  refine q2_getR hs o_W_gains_22 f_W_83 rfl eh1 ?_
  refine q2_getI hs o_W_gains_25 f_W_306 (kd_Tw_0 bh1) ?_
  refine q_icmp_ge o_W_gains_28 (fun c3 => ?_) (fun c3 => ?_)
  · have h4 := h1.1 c3
    refine q_iload_n o_W_gains_67 rfl ?_
    exact q_ire o_W_gains_68 rfl h4
  · have h5 := h1.2 c3
    refine q_iload_n o_W_gains_31 rfl ?_
    refine q_aload_n o_W_gains_32 rfl ?_
    refine q2_getR hs o_W_gains_33 f_W_58 rfl (fz_0_6 hs) ?_
    refine q_aload_n o_W_gains_36 rfl ?_
    refine q2_getR hs o_W_gains_37 f_W_83 rfl eh1 ?_
    refine q_iload_n o_W_gains_40 rfl ?_
    refine q_iload_n o_W_gains_41 rfl ?_
    refine q2_callVi _ (a := 15) (As := [.ref t2, .int p0, .int l3]) (st := [.int l2]) hs o_W_gains_42 k_W_314 rfl rfl (Nat.le_of_ble_eq_true rfl) h5 (fun x9 σ7 hs8 h6 => ?_)
    refine q_aload_n o_W_gains_45 rfl ?_
    refine q2_getR hs8 o_W_gains_46 f_W_58 rfl (fz_0_6 hs8) ?_
    refine q_aload_n o_W_gains_49 rfl ?_
    obtain ⟨t11, eh10, bh10, h10⟩ := h6
    refine q2_getR hs8 o_W_gains_50 f_W_83 rfl eh10 ?_
    refine q_iload_n o_W_gains_53 rfl ?_
    refine q_iload_n o_W_gains_54 rfl ?_
    refine q2_callVi _ (a := 15) (As := [.ref t11, .int l3, .int p0]) (st := [.int x9, .int l2]) hs8 o_W_gains_55 k_W_314 rfl rfl (Nat.le_of_ble_eq_true rfl) h10 (fun x15 σ13 hs14 h12 => ?_)
    refine q_isub o_W_gains_58 ?_
    refine q_iadd o_W_gains_59 ?_
    refine q2_istn (ls' := [some (.ref 0), some (.int p0), some (.int (l2 + (x9 - x15))), some (.int l3)]) o_W_gains_60 (Nat.le_of_ble_eq_true rfl) rfl ?_
    refine q2_inc (v := (l3 + 1)) (ls' := [some (.ref 0), some (.int p0), some (.int (l2 + (x9 - x15))), some (.int (l3 + 1))]) o_W_gains_61 rfl rfl (Nat.le_of_ble_eq_true rfl) rfl ?_
    refine q_goto o_W_gains_64 ?_
    exact h12

set_option maxRecDepth 20000 in
theorem v_W_tampered_0 {G : q_G} {d : Nat} {σ : q_S} {Q : Option Value → q_S → Prop} {p0 : Int32} {p1 : Int32} {p2 : Int32} {p3 : Int32}  (hs : q_Sh σ) (h : (∃ t6, q_R σ 0 12 = some t6 ∧ q_isTw t6 ∧ q_Call G d 0 0 X_Tw_housePairs [.ref t6] σ (q_ri (fun x10 σ8 => q_Call G d 0 0 X_W_areTwo [.ref 0, .int p0, .int p1] σ8 (q_ri (fun x14 σ12 => ((x14 = 0 → Q (some (.int (-1))) σ12) ∧ (¬ x14 = 0 → (((if p2 < 1 then (0 : Int32) else (if 6 < p2 then (0 : Int32) else (if p3 < 0 then (0 : Int32) else (if p2 < p3 then (0 : Int32) else (1 : Int32))))) = 0 → Q (some (.int (-1))) σ12) ∧ (¬ (if p2 < 1 then (0 : Int32) else (if 6 < p2 then (0 : Int32) else (if p3 < 0 then (0 : Int32) else (if p2 < p3 then (0 : Int32) else (1 : Int32))))) = 0 → ((1 ≤ x10 → q_At G X_W_tampered (d + 1) 0 0 67 [some (.ref 0), some (.int p0), some (.int p1), some (.int p2), some (.int p3), some (.int (if p2 < 1 then (0 : Int32) else (if 6 < p2 then (0 : Int32) else (if p3 < 0 then (0 : Int32) else (if p2 < p3 then (0 : Int32) else (1 : Int32)))))), some (.int x10), some (.long 0), none, some (.int p3), none] [] σ12 Q) ∧ (¬ 1 ≤ x10 → Q (some (.int (-1))) σ12)))))))))))) : q_At G X_W_tampered (d + 1) 0 0 0 [some (.ref 0), some (.int p0), some (.int p1), some (.int p2), some (.int p3), none, none, none, none, none, none] [] σ Q := by
  refine q_iload_n o_W_tampered_0 rfl ?_
  refine q_iconst (v := 1) o_W_tampered_1 (by decide) ?_
  have hJ : ∀ vJ : Int32, vJ = (if p2 < 1 then (0 : Int32) else (if 6 < p2 then (0 : Int32) else (if p3 < 0 then (0 : Int32) else (if p2 < p3 then (0 : Int32) else (1 : Int32))))) → q_At G X_W_tampered (d + 1) 0 0 27 [some (.ref 0), some (.int p0), some (.int p1), some (.int p2), some (.int p3), none, none, none, none, none, none] [.int vJ] σ Q := by
    intro vJ eJ
    rw [eJ]
    clear eJ vJ
    refine q2_ist (ls' := [some (.ref 0), some (.int p0), some (.int p1), some (.int p2), some (.int p3), some (.int (if p2 < 1 then (0 : Int32) else (if 6 < p2 then (0 : Int32) else (if p3 < 0 then (0 : Int32) else (if p2 < p3 then (0 : Int32) else (1 : Int32)))))), none, none, none, none, none]) o_W_tampered_27 (Nat.le_of_ble_eq_true rfl) rfl ?_
    refine q_aload_n o_W_tampered_29 rfl ?_
    obtain ⟨t6, eh5, bh5, h5⟩ := h
    refine q2_getR hs o_W_tampered_30 f_W_83 rfl eh5 ?_
    refine q2_callVi _ (a := t6) (As := []) (st := []) hs o_W_tampered_33 k_W_237 (kd_Tw_0 bh5) rfl (Nat.le_of_ble_eq_true rfl) h5 (fun x10 σ8 hs9 h7 => ?_)
    refine q2_ist (ls' := [some (.ref 0), some (.int p0), some (.int p1), some (.int p2), some (.int p3), some (.int (if p2 < 1 then (0 : Int32) else (if 6 < p2 then (0 : Int32) else (if p3 < 0 then (0 : Int32) else (if p2 < p3 then (0 : Int32) else (1 : Int32)))))), some (.int x10), none, none, none, none]) o_W_tampered_36 (Nat.le_of_ble_eq_true rfl) rfl ?_
    refine q_aload_n o_W_tampered_38 rfl ?_
    refine q_iload_n o_W_tampered_39 rfl ?_
    refine q_iload_n o_W_tampered_40 rfl ?_
    refine q2_callVi _ (a := 0) (As := [.int p0, .int p1]) (st := []) hs9 o_W_tampered_41 k_W_162 rfl rfl (Nat.le_of_ble_eq_true rfl) h7 (fun x14 σ12 hs13 h11 => ?_)
    refine q_if_eq o_W_tampered_44 (fun c15 => ?_) (fun c15 => ?_)
    · have h16 := h11.1 c15
      refine q_iconst (v := (-1)) o_W_tampered_58 (by decide) ?_
      exact q_ire o_W_tampered_59 rfl h16
    · have h17 := h11.2 c15
      refine q_iload o_W_tampered_47 rfl ?_
      refine q_if_eq o_W_tampered_49 (fun c18 => ?_) (fun c18 => ?_)
      · have h19 := h17.1 c18
        refine q_iconst (v := (-1)) o_W_tampered_58 (by decide) ?_
        exact q_ire o_W_tampered_59 rfl h19
      · have h20 := h17.2 c18
        refine q_iload o_W_tampered_52 rfl ?_
        refine q_iconst (v := 1) o_W_tampered_54 (by decide) ?_
        refine q_icmp_ge o_W_tampered_55 (fun c21 => ?_) (fun c21 => ?_)
        · have h22 := h20.1 c21
          refine q_lconst (v := 0) o_W_tampered_60 (by decide) ?_
          refine q2_lst (ls' := [some (.ref 0), some (.int p0), some (.int p1), some (.int p2), some (.int p3), some (.int (if p2 < 1 then (0 : Int32) else (if 6 < p2 then (0 : Int32) else (if p3 < 0 then (0 : Int32) else (if p2 < p3 then (0 : Int32) else (1 : Int32)))))), some (.int x10), some (.long 0), none, none, none]) o_W_tampered_61 (Nat.le_of_ble_eq_true rfl) rfl ?_
          refine q_iload o_W_tampered_63 rfl ?_
          refine q2_ist (ls' := [some (.ref 0), some (.int p0), some (.int p1), some (.int p2), some (.int p3), some (.int (if p2 < 1 then (0 : Int32) else (if 6 < p2 then (0 : Int32) else (if p3 < 0 then (0 : Int32) else (if p2 < p3 then (0 : Int32) else (1 : Int32)))))), some (.int x10), some (.long 0), none, some (.int p3), none]) o_W_tampered_65 (Nat.le_of_ble_eq_true rfl) rfl ?_
          exact h22
        · have h23 := h20.2 c21
          refine q_iconst (v := (-1)) o_W_tampered_58 (by decide) ?_
          exact q_ire o_W_tampered_59 rfl h23
  refine q_icmp_lt o_W_tampered_2 (fun c1 => ?_) (fun c1 => ?_)
  · refine q_iconst (v := 0) o_W_tampered_26 (by decide) ?_
    exact hJ _ (Eq.symm (if_pos c1))
  · refine q_iload_n o_W_tampered_5 rfl ?_
    refine q_bipush (v := 6) o_W_tampered_6 (by decide) ?_
    refine q_icmp_gt o_W_tampered_8 (fun c2 => ?_) (fun c2 => ?_)
    · refine q_iconst (v := 0) o_W_tampered_26 (by decide) ?_
      exact hJ _ (Eq.symm ((if_neg c1).trans (if_pos c2)))
    · refine q_iload o_W_tampered_11 rfl ?_
      refine q_if_lt o_W_tampered_13 (fun c3 => ?_) (fun c3 => ?_)
      · refine q_iconst (v := 0) o_W_tampered_26 (by decide) ?_
        exact hJ _ (Eq.symm (((if_neg c1).trans (if_neg c2)).trans (if_pos c3)))
      · refine q_iload o_W_tampered_16 rfl ?_
        refine q_iload_n o_W_tampered_18 rfl ?_
        refine q_icmp_gt o_W_tampered_19 (fun c4 => ?_) (fun c4 => ?_)
        · refine q_iconst (v := 0) o_W_tampered_26 (by decide) ?_
          exact hJ _ (Eq.symm ((((if_neg c1).trans (if_neg c2)).trans (if_neg c3)).trans (if_pos c4)))
        · refine q_iconst (v := 1) o_W_tampered_22 (by decide) ?_
          refine q_goto o_W_tampered_23 ?_
          exact hJ _ (Eq.symm ((((if_neg c1).trans (if_neg c2)).trans (if_neg c3)).trans (if_neg c4)))

set_option maxRecDepth 20000 in
theorem v_W_tampered_67 {G : q_G} {d : Nat} {σ : q_S} {Q : Option Value → q_S → Prop} {p0 : Int32} {p1 : Int32} {p2 : Int32} {p3 : Int32} {l5 : Int32} {l6 : Int32} {l7 : Int64} {l9 : Int32}  (hs : q_Sh σ) (h : ((p2 < l9 → q_Call G d 0 0 X_W_power [.int l6, .int p2] σ (q_rl (fun x6 σ4 => ((0 ≤ (lg_cmp x6 1) → (¬ x6 = 0 ∧ Q (some (.int (((l7 * 1000000) / x6).toInt32))) σ4)) ∧ (¬ 0 ≤ (lg_cmp x6 1) → Q (some (.int (-1))) σ4))))) ∧ (¬ p2 < l9 → q_Call G d 0 0 X_W_choose [.int p2, .int l9] σ (q_rl (fun x15 σ13 => (∃ t17, q_R σ13 0 12 = some t17 ∧ q_isTw t17 ∧ q_Call G d 0 0 X_W_power [.int (q_I σ13 t17 15), .int l9] σ13 (q_rl (fun x21 σ19 => (∃ t23, q_R σ19 0 12 = some t23 ∧ q_isTw t23 ∧ q_Call G d 0 0 X_W_power [.int (l6 - (q_I σ19 t23 15)), .int (p2 - l9)] σ19 (q_rl (fun x27 σ25 => q_At G X_W_tampered (d + 1) 0 0 67 [some (.ref 0), some (.int p0), some (.int p1), some (.int p2), some (.int p3), some (.int l5), some (.int l6), some (.long (l7 + ((x15 * x21) * x27))), none, some (.int (l9 + 1)), none] [] σ25 Q))))))))))) : q_At G X_W_tampered (d + 1) 0 0 67 [some (.ref 0), some (.int p0), some (.int p1), some (.int p2), some (.int p3), some (.int l5), some (.int l6), some (.long l7), none, some (.int l9), none] [] σ Q := by
  refine q_iload o_W_tampered_67 rfl ?_
  refine q_iload_n o_W_tampered_69 rfl ?_
  refine q_icmp_gt o_W_tampered_70 (fun c1 => ?_) (fun c1 => ?_)
  · have h2 := h.1 c1
    refine q_iload o_W_tampered_121 rfl ?_
    refine q_iload_n o_W_tampered_123 rfl ?_
    refine q2_callSl _ (As := [.int l6, .int p2]) (st := []) hs o_W_tampered_124 k_W_321 rfl (Nat.le_of_ble_eq_true rfl) h2 (fun x6 σ4 hs5 h3 => ?_)
    refine q2_lst (ls' := [some (.ref 0), some (.int p0), some (.int p1), some (.int p2), some (.int p3), some (.int l5), some (.int l6), some (.long l7), none, some (.long x6), none]) o_W_tampered_127 (Nat.le_of_ble_eq_true rfl) rfl ?_
    refine q_lload o_W_tampered_129 rfl ?_
    refine q_lconst (v := 1) o_W_tampered_131 (by decide) ?_
    refine q_lcmp o_W_tampered_132 ?_
    refine q_if_ge o_W_tampered_133 (fun c7 => ?_) (fun c7 => ?_)
    · have h8 := h3.1 c7
      refine q_lload o_W_tampered_140 rfl ?_
      refine q_ldc2 o_W_tampered_142 n_W_254 ?_
      refine q_lmul o_W_tampered_145 ?_
      refine q_lload o_W_tampered_146 rfl ?_
      obtain ⟨h9n, h9⟩ := h8
      refine q_ldiv o_W_tampered_148 h9n ?_
      refine q_l2i o_W_tampered_149 ?_
      exact q_ire o_W_tampered_150 rfl h9
    · have h10 := h3.2 c7
      refine q_iconst (v := (-1)) o_W_tampered_136 (by decide) ?_
      refine q_goto o_W_tampered_137 ?_
      exact q_ire o_W_tampered_150 rfl h10
  · have h11 := h.2 c1
    refine q_lload o_W_tampered_73 rfl ?_
    refine q_iload_n o_W_tampered_75 rfl ?_
    refine q_iload o_W_tampered_76 rfl ?_
    refine q2_callSl _ (As := [.int p2, .int l9]) (st := [.long l7]) hs o_W_tampered_78 k_W_318 rfl (Nat.le_of_ble_eq_true rfl) h11 (fun x15 σ13 hs14 h12 => ?_)
    refine q_aload_n o_W_tampered_81 rfl ?_
    obtain ⟨t17, eh16, bh16, h16⟩ := h12
    refine q2_getR hs14 o_W_tampered_82 f_W_83 rfl eh16 ?_
    refine q2_getI hs14 o_W_tampered_85 f_W_241 (kd_Tw_0 bh16) ?_
    refine q_iload o_W_tampered_88 rfl ?_
    refine q2_callSl _ (As := [.int (q_I σ13 t17 15), .int l9]) (st := [.long x15, .long l7]) hs14 o_W_tampered_90 k_W_321 rfl (Nat.le_of_ble_eq_true rfl) h16 (fun x21 σ19 hs20 h18 => ?_)
    refine q_lmul o_W_tampered_93 ?_
    refine q_iload o_W_tampered_94 rfl ?_
    refine q_aload_n o_W_tampered_96 rfl ?_
    obtain ⟨t23, eh22, bh22, h22⟩ := h18
    refine q2_getR hs20 o_W_tampered_97 f_W_83 rfl eh22 ?_
    refine q2_getI hs20 o_W_tampered_100 f_W_241 (kd_Tw_0 bh22) ?_
    refine q_isub o_W_tampered_103 ?_
    refine q_iload_n o_W_tampered_104 rfl ?_
    refine q_iload o_W_tampered_105 rfl ?_
    refine q_isub o_W_tampered_107 ?_
    refine q2_callSl _ (As := [.int (l6 - (q_I σ19 t23 15)), .int (p2 - l9)]) (st := [.long (x15 * x21), .long l7]) hs20 o_W_tampered_108 k_W_321 rfl (Nat.le_of_ble_eq_true rfl) h22 (fun x27 σ25 hs26 h24 => ?_)
    refine q_lmul o_W_tampered_111 ?_
    refine q_ladd o_W_tampered_112 ?_
    refine q2_lst (ls' := [some (.ref 0), some (.int p0), some (.int p1), some (.int p2), some (.int p3), some (.int l5), some (.int l6), some (.long (l7 + ((x15 * x21) * x27))), none, some (.int l9), none]) o_W_tampered_113 (Nat.le_of_ble_eq_true rfl) rfl ?_
    refine q2_inc (v := (l9 + 1)) (ls' := [some (.ref 0), some (.int p0), some (.int p1), some (.int p2), some (.int p3), some (.int l5), some (.int l6), some (.long (l7 + ((x15 * x21) * x27))), none, some (.int (l9 + 1)), none]) o_W_tampered_115 rfl rfl (Nat.le_of_ble_eq_true rfl) rfl ?_
    refine q_goto o_W_tampered_118 ?_
    exact h24

set_option maxRecDepth 20000 in
theorem v_W_centuries_0 {G : q_G} {d : Nat} {σ : q_S} {Q : Option Value → q_S → Prop} {p0 : Int32} {p1 : Int32} {p2 : Int32}  (hs : q_Sh σ) (h : q_Call G d 0 0 X_W_isSeed [.int p0] σ (q_ri (fun x4 σ2 => ((x4 = 0 → Q (some (.int (-1))) σ2) ∧ (¬ x4 = 0 → ((p1 < 1 → Q (some (.int (-1))) σ2) ∧ (¬ p1 < 1 → ((60 < p1 → Q (some (.int (-1))) σ2) ∧ (¬ 60 < p1 → ((p2 < 0 → Q (some (.int (-1))) σ2) ∧ (¬ p2 < 0 → ((p2 ≤ 2 → q_Call G d 0 0 X_Li_become [.ref 19, .ref 15] σ2 (q_rv (fun σ20 => q_At G X_W_centuries (d + 1) 0 0 66 [some (.ref 0), some (.int p0), some (.int p1), some (.int p2), some (.int 0), some (.int 0), some (.int 0)] [] (q_setL (q_setI σ20 19 4 0) 12 1 p0.toInt64) Q))) ∧ (¬ p2 ≤ 2 → Q (some (.int (-1))) σ2))))))))))))) : q_At G X_W_centuries (d + 1) 0 0 0 [some (.ref 0), some (.int p0), some (.int p1), some (.int p2), none, none, none] [] σ Q := by
  refine q_iload_n o_W_centuries_0 rfl ?_
  refine q2_callSi _ (As := [.int p0]) (st := []) hs o_W_centuries_1 k_W_169 rfl (Nat.le_of_ble_eq_true rfl) h (fun x4 σ2 hs3 h1 => ?_)
  refine q_if_eq o_W_centuries_4 (fun c5 => ?_) (fun c5 => ?_)
  · have h6 := h1.1 c5
    refine q_iconst (v := (-1)) o_W_centuries_27 (by decide) ?_
    exact q_ire o_W_centuries_28 rfl h6
  · have h7 := h1.2 c5
    refine q_iload_n o_W_centuries_7 rfl ?_
    refine q_iconst (v := 1) o_W_centuries_8 (by decide) ?_
    refine q_icmp_lt o_W_centuries_9 (fun c8 => ?_) (fun c8 => ?_)
    · have h9 := h7.1 c8
      refine q_iconst (v := (-1)) o_W_centuries_27 (by decide) ?_
      exact q_ire o_W_centuries_28 rfl h9
    · have h10 := h7.2 c8
      refine q_iload_n o_W_centuries_12 rfl ?_
      refine q_bipush (v := 60) o_W_centuries_13 (by decide) ?_
      refine q_icmp_gt o_W_centuries_15 (fun c11 => ?_) (fun c11 => ?_)
      · have h12 := h10.1 c11
        refine q_iconst (v := (-1)) o_W_centuries_27 (by decide) ?_
        exact q_ire o_W_centuries_28 rfl h12
      · have h13 := h10.2 c11
        refine q_iload_n o_W_centuries_18 rfl ?_
        refine q_if_lt o_W_centuries_19 (fun c14 => ?_) (fun c14 => ?_)
        · have h15 := h13.1 c14
          refine q_iconst (v := (-1)) o_W_centuries_27 (by decide) ?_
          exact q_ire o_W_centuries_28 rfl h15
        · have h16 := h13.2 c14
          refine q_iload_n o_W_centuries_22 rfl ?_
          refine q_iconst (v := 2) o_W_centuries_23 (by decide) ?_
          refine q_icmp_le o_W_centuries_24 (fun c17 => ?_) (fun c17 => ?_)
          · have h18 := h16.1 c17
            refine q_aload_n o_W_centuries_29 rfl ?_
            refine q2_getR hs3 o_W_centuries_30 f_W_62 rfl (fz_0_7 hs3) ?_
            refine q_aload_n o_W_centuries_33 rfl ?_
            refine q2_getR hs3 o_W_centuries_34 f_W_58 rfl (fz_0_6 hs3) ?_
            refine q2_callVv _ (a := 19) (As := [.ref 15]) (st := []) hs3 o_W_centuries_37 k_W_211 rfl rfl (Nat.le_of_ble_eq_true rfl) h18 (fun σ20 hs21 h19 => ?_)
            refine q_aload_n o_W_centuries_40 rfl ?_
            refine q2_getR hs21 o_W_centuries_41 f_W_62 rfl (fz_0_7 hs21) ?_
            refine q_iconst (v := 0) o_W_centuries_44 (by decide) ?_
            refine q2_putI hs21 o_W_centuries_45 fp_W_234 rfl rfl rfl ?_
            refine q_aload_n o_W_centuries_48 rfl ?_
            refine q2_getR hs21 o_W_centuries_49 f_W_44 rfl (fz_0_4 hs21) ?_
            refine q_iload_n o_W_centuries_52 rfl ?_
            refine q_i2l o_W_centuries_53 ?_
            refine q2_putL hs21 o_W_centuries_54 fp_W_175 rfl rfl rfl ?_
            refine q_iconst (v := 0) o_W_centuries_57 (by decide) ?_
            refine q2_ist (ls' := [some (.ref 0), some (.int p0), some (.int p1), some (.int p2), some (.int 0), none, none]) o_W_centuries_58 (Nat.le_of_ble_eq_true rfl) rfl ?_
            refine q_iconst (v := 0) o_W_centuries_60 (by decide) ?_
            refine q2_ist (ls' := [some (.ref 0), some (.int p0), some (.int p1), some (.int p2), some (.int 0), some (.int 0), none]) o_W_centuries_61 (Nat.le_of_ble_eq_true rfl) rfl ?_
            refine q_iconst (v := 0) o_W_centuries_63 (by decide) ?_
            refine q2_ist (ls' := [some (.ref 0), some (.int p0), some (.int p1), some (.int p2), some (.int 0), some (.int 0), some (.int 0)]) o_W_centuries_64 (Nat.le_of_ble_eq_true rfl) rfl ?_
            exact h19
          · have h22 := h16.2 c17
            refine q_iconst (v := (-1)) o_W_centuries_27 (by decide) ?_
            exact q_ire o_W_centuries_28 rfl h22

set_option maxRecDepth 20000 in
theorem v_W_centuries_66 {G : q_G} {d : Nat} {σ : q_S} {Q : Option Value → q_S → Prop} {p0 : Int32} {p1 : Int32} {p2 : Int32} {l4 : Int32} {l5 : Int32} {l6 : Int32}  (hs : q_Sh σ) (h : ((p1 ≤ l6 → Q (some (.int (if p2 = 0 then l4 else (if p2 = 1 then l5 else (q_I σ 19 4))))) σ) ∧ (¬ p1 ≤ l6 → (∃ t7, q_R σ 0 12 = some t7 ∧ q_isTw t7 ∧ q_Call G d 0 0 X_Li_liveOn [.ref 19, .ref t7, .ref 12] σ (q_rv (fun σ9 => (∃ t12, q_R σ9 0 12 = some t12 ∧ q_isTw t12 ∧ q_Call G d 0 0 X_Li_redraw [.ref 19, .ref t12, .ref 12] σ9 (q_ri (fun x16 σ14 => (∃ t18, q_R σ14 0 12 = some t18 ∧ q_isTw t18 ∧ q_Call G d 0 0 X_Tw_contentBits [.ref t18, .ref 20] σ14 (q_ri (fun x22 σ20 => q_Call G d 0 0 X_JI_bitCount [.int x22] σ20 (q_ri (fun x26 σ24 => (∃ t28, q_R σ24 0 12 = some t28 ∧ q_isTw t28 ∧ q_Call G d 0 0 X_Tw_pairsOf [.ref t28, .ref 20] σ24 (q_rl (fun x32 σ30 => q_Call G d 0 0 X_Tw_brokenBy [.ref t28, .long x32] σ30 (q_ri (fun x36 σ34 => q_Call G d 0 0 X_JI_bitCount [.int x36] σ34 (q_ri (fun x40 σ38 => q_At G X_W_centuries (d + 1) 0 0 66 [some (.ref 0), some (.int p0), some (.int p1), some (.int p2), some (.int (l4 + x26)), some (.int (l5 + x40)), some (.int (l6 + 1))] [] σ38 Q))))))))))))))))))))) : q_At G X_W_centuries (d + 1) 0 0 66 [some (.ref 0), some (.int p0), some (.int p1), some (.int p2), some (.int l4), some (.int l5), some (.int l6)] [] σ Q := by
  refine q_iload o_W_centuries_66 rfl ?_
  refine q_iload_n o_W_centuries_68 rfl ?_
  refine q_icmp_ge o_W_centuries_69 (fun c1 => ?_) (fun c1 => ?_)
  · have h2 := h.1 c1
    refine q_iload_n o_W_centuries_160 rfl ?_
    have hJ : ∀ vJ : Int32, vJ = (if p2 = 0 then l4 else (if p2 = 1 then l5 else (q_I σ 19 4))) → q_At G X_W_centuries (d + 1) 0 0 186 [some (.ref 0), some (.int p0), some (.int p1), some (.int p2), some (.int l4), some (.int l5), some (.int l6)] [.int vJ] σ Q := by
      intro vJ eJ
      rw [eJ]
      clear eJ vJ
      exact q_ire o_W_centuries_186 rfl h2
    refine q_if_ne o_W_centuries_161 (fun c3 => ?_) (fun c3 => ?_)
    · refine q_iload_n o_W_centuries_169 rfl ?_
      refine q_iconst (v := 1) o_W_centuries_170 (by decide) ?_
      refine q_icmp_ne o_W_centuries_171 (fun c4 => ?_) (fun c4 => ?_)
      · refine q_aload_n o_W_centuries_179 rfl ?_
        refine q2_getR hs o_W_centuries_180 f_W_62 rfl (fz_0_7 hs) ?_
        refine q2_getI hs o_W_centuries_183 f_W_234 rfl ?_
        exact hJ _ (Eq.symm ((if_neg c3).trans (if_neg c4)))
      · refine q_iload o_W_centuries_174 rfl ?_
        refine q_goto o_W_centuries_176 ?_
        exact hJ _ (Eq.symm ((if_neg c3).trans (if_pos c4)))
    · refine q_iload o_W_centuries_164 rfl ?_
      refine q_goto o_W_centuries_166 ?_
      exact hJ _ (Eq.symm (if_pos c3))
  · have h5 := h.2 c1
    refine q_aload_n o_W_centuries_72 rfl ?_
    refine q2_getR hs o_W_centuries_73 f_W_62 rfl (fz_0_7 hs) ?_
    refine q_aload_n o_W_centuries_76 rfl ?_
    obtain ⟨t7, eh6, bh6, h6⟩ := h5
    refine q2_getR hs o_W_centuries_77 f_W_83 rfl eh6 ?_
    refine q_aload_n o_W_centuries_80 rfl ?_
    refine q2_getR hs o_W_centuries_81 f_W_44 rfl (fz_0_4 hs) ?_
    refine q2_callVv _ (a := 19) (As := [.ref t7, .ref 12]) (st := []) hs o_W_centuries_84 k_W_324 rfl rfl (Nat.le_of_ble_eq_true rfl) h6 (fun σ9 hs10 h8 => ?_)
    refine q_aload_n o_W_centuries_87 rfl ?_
    refine q2_getR hs10 o_W_centuries_88 f_W_62 rfl (fz_0_7 hs10) ?_
    refine q_aload_n o_W_centuries_91 rfl ?_
    obtain ⟨t12, eh11, bh11, h11⟩ := h8
    refine q2_getR hs10 o_W_centuries_92 f_W_83 rfl eh11 ?_
    refine q_aload_n o_W_centuries_95 rfl ?_
    refine q2_getR hs10 o_W_centuries_96 f_W_44 rfl (fz_0_4 hs10) ?_
    refine q2_callVi _ (a := 19) (As := [.ref t12, .ref 12]) (st := []) hs10 o_W_centuries_99 k_W_179 rfl rfl (Nat.le_of_ble_eq_true rfl) h11 (fun x16 σ14 hs15 h13 => ?_)
    refine q_pop o_W_centuries_102 rfl ?_
    refine q_iload o_W_centuries_103 rfl ?_
    refine q_aload_n o_W_centuries_105 rfl ?_
    obtain ⟨t18, eh17, bh17, h17⟩ := h13
    refine q2_getR hs15 o_W_centuries_106 f_W_83 rfl eh17 ?_
    refine q_aload_n o_W_centuries_109 rfl ?_
    refine q2_getR hs15 o_W_centuries_110 f_W_62 rfl (fz_0_7 hs15) ?_
    refine q2_getR hs15 o_W_centuries_113 f_W_119 rfl (fz_19_0 hs15) ?_
    refine q2_callVi _ (a := t18) (As := [.ref 20]) (st := [.int l4]) hs15 o_W_centuries_116 k_W_328 (kd_Tw_0 bh17) rfl (Nat.le_of_ble_eq_true rfl) h17 (fun x22 σ20 hs21 h19 => ?_)
    refine q2_callSi _ (As := [.int x22]) (st := [.int l4]) hs21 o_W_centuries_119 k_W_332 rfl (Nat.le_of_ble_eq_true rfl) h19 (fun x26 σ24 hs25 h23 => ?_)
    refine q_iadd o_W_centuries_122 ?_
    refine q2_ist (ls' := [some (.ref 0), some (.int p0), some (.int p1), some (.int p2), some (.int (l4 + x26)), some (.int l5), some (.int l6)]) o_W_centuries_123 (Nat.le_of_ble_eq_true rfl) rfl ?_
    refine q_iload o_W_centuries_125 rfl ?_
    refine q_aload_n o_W_centuries_127 rfl ?_
    obtain ⟨t28, eh27, bh27, h27⟩ := h23
    refine q2_getR hs25 o_W_centuries_128 f_W_83 rfl eh27 ?_
    refine q_aload_n o_W_centuries_131 rfl ?_
    refine q2_getR hs25 o_W_centuries_132 f_W_83 rfl eh27 ?_
    refine q_aload_n o_W_centuries_135 rfl ?_
    refine q2_getR hs25 o_W_centuries_136 f_W_62 rfl (fz_0_7 hs25) ?_
    refine q2_getR hs25 o_W_centuries_139 f_W_119 rfl (fz_19_0 hs25) ?_
    refine q2_callVl _ (a := t28) (As := [.ref 20]) (st := [.ref t28, .int l5]) hs25 o_W_centuries_142 k_W_226 (kd_Tw_0 bh27) rfl (Nat.le_of_ble_eq_true rfl) h27 (fun x32 σ30 hs31 h29 => ?_)
    refine q2_callVi _ (a := t28) (As := [.long x32]) (st := [.int l5]) hs31 o_W_centuries_145 k_W_230 (kd_Tw_0 bh27) rfl (Nat.le_of_ble_eq_true rfl) h29 (fun x36 σ34 hs35 h33 => ?_)
    refine q2_callSi _ (As := [.int x36]) (st := [.int l5]) hs35 o_W_centuries_148 k_W_332 rfl (Nat.le_of_ble_eq_true rfl) h33 (fun x40 σ38 hs39 h37 => ?_)
    refine q_iadd o_W_centuries_151 ?_
    refine q2_ist (ls' := [some (.ref 0), some (.int p0), some (.int p1), some (.int p2), some (.int (l4 + x26)), some (.int (l5 + x40)), some (.int l6)]) o_W_centuries_152 (Nat.le_of_ble_eq_true rfl) rfl ?_
    refine q2_inc (v := (l6 + 1)) (ls' := [some (.ref 0), some (.int p0), some (.int p1), some (.int p2), some (.int (l4 + x26)), some (.int (l5 + x40)), some (.int (l6 + 1))]) o_W_centuries_154 rfl rfl (Nat.le_of_ble_eq_true rfl) rfl ?_
    refine q_goto o_W_centuries_157 ?_
    exact h37

set_option maxRecDepth 20000 in
theorem v_W_mark_0 {G : q_G} {d : Nat} {σ : q_S} {Q : Option Value → q_S → Prop} {p0 : Int32} {p1 : Int32}  (hs : q_Sh σ) (h : ((p0 < 0 → Q (some (.int 0)) σ) ∧ (¬ p0 < 0 → ((4 ≤ p0 → Q (some (.int 0)) σ) ∧ (¬ 4 ≤ p0 → ((p1 = 0 → ((p1 = 0 → (∃ k12, p0 = nI k12 ∧ k12 < 4 ∧ q_Call G d 0 0 X_Li_become [.ref (139 + 5 * k12), .ref 15] σ (q_rv (fun σ14 => (∃ k17, p0 = nI k17 ∧ k17 < 4 ∧ q_Call G d 0 0 X_Tl_become [.ref (143 + 5 * k17), .ref 14] σ14 (q_rv (fun σ19 => (∃ k22, p0 = nI k22 ∧ k22 < 4 ∧ Q (some (.int 1)) (q_setI σ19 26 k22 (vp_nar .boolean 1)))))))))) ∧ (¬ p1 = 0 → (∃ k25, p0 = nI k25 ∧ k25 < 4 ∧ q_Call G d 0 0 X_Li_become [.ref 15, .ref (139 + 5 * k25)] σ (q_rv (fun σ27 => (∃ k30, p0 = nI k30 ∧ k30 < 4 ∧ q_Call G d 0 0 X_Tl_become [.ref 14, .ref (143 + 5 * k30)] σ27 (q_rv (fun σ32 => Q (some (.int 1)) (q_setI σ32 0 17 0)))))))))) ∧ (¬ p1 = 0 → (∃ k36, p0 = nI k36 ∧ k36 < 4 ∧ ((¬ (q_I σ 26 k36) = 0 → ((p1 = 0 → (∃ k42, p0 = nI k42 ∧ k42 < 4 ∧ q_Call G d 0 0 X_Li_become [.ref (139 + 5 * k42), .ref 15] σ (q_rv (fun σ44 => (∃ k47, p0 = nI k47 ∧ k47 < 4 ∧ q_Call G d 0 0 X_Tl_become [.ref (143 + 5 * k47), .ref 14] σ44 (q_rv (fun σ49 => (∃ k52, p0 = nI k52 ∧ k52 < 4 ∧ Q (some (.int 1)) (q_setI σ49 26 k52 (vp_nar .boolean 1)))))))))) ∧ (¬ p1 = 0 → (∃ k55, p0 = nI k55 ∧ k55 < 4 ∧ q_Call G d 0 0 X_Li_become [.ref 15, .ref (139 + 5 * k55)] σ (q_rv (fun σ57 => (∃ k60, p0 = nI k60 ∧ k60 < 4 ∧ q_Call G d 0 0 X_Tl_become [.ref 14, .ref (143 + 5 * k60)] σ57 (q_rv (fun σ62 => Q (some (.int 1)) (q_setI σ62 0 17 0)))))))))) ∧ ((q_I σ 26 k36) = 0 → Q (some (.int 0)) σ)))))))))) : q_At G X_W_mark (d + 1) 0 0 0 [some (.ref 0), some (.int p0), some (.int p1)] [] σ Q := by
  refine q_iload_n o_W_mark_0 rfl ?_
  refine q_if_lt o_W_mark_1 (fun c1 => ?_) (fun c1 => ?_)
  · have h2 := h.1 c1
    refine q_iconst (v := 0) o_W_mark_22 (by decide) ?_
    exact q_zre o_W_mark_23 rfl rfl h2
  · have h3 := h.2 c1
    refine q_iload_n o_W_mark_4 rfl ?_
    refine q_iconst (v := 4) o_W_mark_5 (by decide) ?_
    refine q_icmp_ge o_W_mark_6 (fun c4 => ?_) (fun c4 => ?_)
    · have h5 := h3.1 c4
      refine q_iconst (v := 0) o_W_mark_22 (by decide) ?_
      exact q_zre o_W_mark_23 rfl rfl h5
    · have h6 := h3.2 c4
      refine q_iload_n o_W_mark_9 rfl ?_
      refine q_if_eq o_W_mark_10 (fun c7 => ?_) (fun c7 => ?_)
      · have h8 := h6.1 c7
        refine q_iload_n o_W_mark_24 rfl ?_
        refine q_if_eq o_W_mark_25 (fun c9 => ?_) (fun c9 => ?_)
        · have h10 := h8.1 c9
          refine q_aload_n o_W_mark_62 rfl ?_
          refine q2_getR hs o_W_mark_63 f_W_69 rfl (fz_0_9 hs) ?_
          refine q_iload_n o_W_mark_66 rfl ?_
          obtain ⟨k12, eh11, bh11, h11⟩ := h10
          refine q2_ald5 hs o_W_mark_67 rfl eh11 bh11 (by decide) (fz_at_24 hs bh11) ?_
          refine q_aload_n o_W_mark_68 rfl ?_
          refine q2_getR hs o_W_mark_69 f_W_58 rfl (fz_0_6 hs) ?_
          refine q2_callVv _ (a := 139 + 5 * k12) (As := [.ref 15]) (st := []) hs o_W_mark_72 k_W_211 (kd_Li_0 (is_at_24 bh11)) rfl (Nat.le_of_ble_eq_true rfl) h11 (fun σ14 hs15 h13 => ?_)
          refine q_aload_n o_W_mark_75 rfl ?_
          refine q2_getR hs15 o_W_mark_76 f_W_72 rfl (fz_0_10 hs15) ?_
          refine q_iload_n o_W_mark_79 rfl ?_
          obtain ⟨k17, eh16, bh16, h16⟩ := h13
          refine q2_ald6 hs15 o_W_mark_80 rfl eh16 bh16 (by decide) (fz_at_25 hs15 bh16) ?_
          refine q_aload_n o_W_mark_81 rfl ?_
          refine q2_getR hs15 o_W_mark_82 f_W_51 rfl (fz_0_5 hs15) ?_
          refine q2_callVv _ (a := 143 + 5 * k17) (As := [.ref 14]) (st := []) hs15 o_W_mark_85 k_W_337 (kd_Tl_0 (is_at_25 bh16)) rfl (Nat.le_of_ble_eq_true rfl) h16 (fun σ19 hs20 h18 => ?_)
          refine q_aload_n o_W_mark_88 rfl ?_
          refine q2_getR hs20 o_W_mark_89 f_W_76 rfl (fz_0_11 hs20) ?_
          refine q_iload_n o_W_mark_92 rfl ?_
          refine q_iconst (v := 1) o_W_mark_93 (by decide) ?_
          obtain ⟨k22, eh21, bh21, h21⟩ := h18
          refine q2_zast hs20 o_W_mark_94 rfl eh21 bh21 (by decide) ?_
          refine q_iconst (v := 1) o_W_mark_95 (by decide) ?_
          exact q_zre o_W_mark_96 rfl rfl h21
        · have h23 := h8.2 c9
          refine q_aload_n o_W_mark_28 rfl ?_
          refine q2_getR hs o_W_mark_29 f_W_58 rfl (fz_0_6 hs) ?_
          refine q_aload_n o_W_mark_32 rfl ?_
          refine q2_getR hs o_W_mark_33 f_W_69 rfl (fz_0_9 hs) ?_
          refine q_iload_n o_W_mark_36 rfl ?_
          obtain ⟨k25, eh24, bh24, h24⟩ := h23
          refine q2_ald5 hs o_W_mark_37 rfl eh24 bh24 (by decide) (fz_at_24 hs bh24) ?_
          refine q2_callVv _ (a := 15) (As := [.ref (139 + 5 * k25)]) (st := []) hs o_W_mark_38 k_W_211 rfl rfl (Nat.le_of_ble_eq_true rfl) h24 (fun σ27 hs28 h26 => ?_)
          refine q_aload_n o_W_mark_41 rfl ?_
          refine q2_getR hs28 o_W_mark_42 f_W_51 rfl (fz_0_5 hs28) ?_
          refine q_aload_n o_W_mark_45 rfl ?_
          refine q2_getR hs28 o_W_mark_46 f_W_72 rfl (fz_0_10 hs28) ?_
          refine q_iload_n o_W_mark_49 rfl ?_
          obtain ⟨k30, eh29, bh29, h29⟩ := h26
          refine q2_ald6 hs28 o_W_mark_50 rfl eh29 bh29 (by decide) (fz_at_25 hs28 bh29) ?_
          refine q2_callVv _ (a := 14) (As := [.ref (143 + 5 * k30)]) (st := []) hs28 o_W_mark_51 k_W_337 rfl rfl (Nat.le_of_ble_eq_true rfl) h29 (fun σ32 hs33 h31 => ?_)
          refine q_aload_n o_W_mark_54 rfl ?_
          refine q_iconst (v := 0) o_W_mark_55 (by decide) ?_
          refine q2_putI hs33 o_W_mark_56 fp_W_205 rfl rfl rfl ?_
          refine q_goto o_W_mark_59 ?_
          refine q_iconst (v := 1) o_W_mark_95 (by decide) ?_
          exact q_zre o_W_mark_96 rfl rfl h31
      · have h34 := h6.2 c7
        refine q_aload_n o_W_mark_13 rfl ?_
        refine q2_getR hs o_W_mark_14 f_W_76 rfl (fz_0_11 hs) ?_
        refine q_iload_n o_W_mark_17 rfl ?_
        obtain ⟨k36, eh35, bh35, h35⟩ := h34
        refine q2_zald hs o_W_mark_18 rfl eh35 bh35 (by decide) ?_
        refine q_if_ne o_W_mark_19 (fun c37 => ?_) (fun c37 => ?_)
        · have h38 := h35.1 c37
          refine q_iload_n o_W_mark_24 rfl ?_
          refine q_if_eq o_W_mark_25 (fun c39 => ?_) (fun c39 => ?_)
          · have h40 := h38.1 c39
            refine q_aload_n o_W_mark_62 rfl ?_
            refine q2_getR hs o_W_mark_63 f_W_69 rfl (fz_0_9 hs) ?_
            refine q_iload_n o_W_mark_66 rfl ?_
            obtain ⟨k42, eh41, bh41, h41⟩ := h40
            refine q2_ald5 hs o_W_mark_67 rfl eh41 bh41 (by decide) (fz_at_24 hs bh41) ?_
            refine q_aload_n o_W_mark_68 rfl ?_
            refine q2_getR hs o_W_mark_69 f_W_58 rfl (fz_0_6 hs) ?_
            refine q2_callVv _ (a := 139 + 5 * k42) (As := [.ref 15]) (st := []) hs o_W_mark_72 k_W_211 (kd_Li_0 (is_at_24 bh41)) rfl (Nat.le_of_ble_eq_true rfl) h41 (fun σ44 hs45 h43 => ?_)
            refine q_aload_n o_W_mark_75 rfl ?_
            refine q2_getR hs45 o_W_mark_76 f_W_72 rfl (fz_0_10 hs45) ?_
            refine q_iload_n o_W_mark_79 rfl ?_
            obtain ⟨k47, eh46, bh46, h46⟩ := h43
            refine q2_ald6 hs45 o_W_mark_80 rfl eh46 bh46 (by decide) (fz_at_25 hs45 bh46) ?_
            refine q_aload_n o_W_mark_81 rfl ?_
            refine q2_getR hs45 o_W_mark_82 f_W_51 rfl (fz_0_5 hs45) ?_
            refine q2_callVv _ (a := 143 + 5 * k47) (As := [.ref 14]) (st := []) hs45 o_W_mark_85 k_W_337 (kd_Tl_0 (is_at_25 bh46)) rfl (Nat.le_of_ble_eq_true rfl) h46 (fun σ49 hs50 h48 => ?_)
            refine q_aload_n o_W_mark_88 rfl ?_
            refine q2_getR hs50 o_W_mark_89 f_W_76 rfl (fz_0_11 hs50) ?_
            refine q_iload_n o_W_mark_92 rfl ?_
            refine q_iconst (v := 1) o_W_mark_93 (by decide) ?_
            obtain ⟨k52, eh51, bh51, h51⟩ := h48
            refine q2_zast hs50 o_W_mark_94 rfl eh51 bh51 (by decide) ?_
            refine q_iconst (v := 1) o_W_mark_95 (by decide) ?_
            exact q_zre o_W_mark_96 rfl rfl h51
          · have h53 := h38.2 c39
            refine q_aload_n o_W_mark_28 rfl ?_
            refine q2_getR hs o_W_mark_29 f_W_58 rfl (fz_0_6 hs) ?_
            refine q_aload_n o_W_mark_32 rfl ?_
            refine q2_getR hs o_W_mark_33 f_W_69 rfl (fz_0_9 hs) ?_
            refine q_iload_n o_W_mark_36 rfl ?_
            obtain ⟨k55, eh54, bh54, h54⟩ := h53
            refine q2_ald5 hs o_W_mark_37 rfl eh54 bh54 (by decide) (fz_at_24 hs bh54) ?_
            refine q2_callVv _ (a := 15) (As := [.ref (139 + 5 * k55)]) (st := []) hs o_W_mark_38 k_W_211 rfl rfl (Nat.le_of_ble_eq_true rfl) h54 (fun σ57 hs58 h56 => ?_)
            refine q_aload_n o_W_mark_41 rfl ?_
            refine q2_getR hs58 o_W_mark_42 f_W_51 rfl (fz_0_5 hs58) ?_
            refine q_aload_n o_W_mark_45 rfl ?_
            refine q2_getR hs58 o_W_mark_46 f_W_72 rfl (fz_0_10 hs58) ?_
            refine q_iload_n o_W_mark_49 rfl ?_
            obtain ⟨k60, eh59, bh59, h59⟩ := h56
            refine q2_ald6 hs58 o_W_mark_50 rfl eh59 bh59 (by decide) (fz_at_25 hs58 bh59) ?_
            refine q2_callVv _ (a := 14) (As := [.ref (143 + 5 * k60)]) (st := []) hs58 o_W_mark_51 k_W_337 rfl rfl (Nat.le_of_ble_eq_true rfl) h59 (fun σ62 hs63 h61 => ?_)
            refine q_aload_n o_W_mark_54 rfl ?_
            refine q_iconst (v := 0) o_W_mark_55 (by decide) ?_
            refine q2_putI hs63 o_W_mark_56 fp_W_205 rfl rfl rfl ?_
            refine q_goto o_W_mark_59 ?_
            refine q_iconst (v := 1) o_W_mark_95 (by decide) ?_
            exact q_zre o_W_mark_96 rfl rfl h61
        · have h64 := h35.2 c37
          refine q_iconst (v := 0) o_W_mark_22 (by decide) ?_
          exact q_zre o_W_mark_23 rfl rfl h64

set_option maxRecDepth 20000 in
theorem v_W_count_0 {G : q_G} {d : Nat} {σ : q_S} {Q : Option Value → q_S → Prop} {p0 : Int32}  (hs : q_Sh σ) (h : (((p0.toInt < 0 ∨ 12 < p0.toInt) → Q (some (.int (-1))) σ) ∧ ((p0.toInt = 0 → (∃ t5, q_R σ 0 12 = some t5 ∧ q_isTw t5 ∧ Q (some (.int (q_I σ t5 13))) σ)) ∧ (p0.toInt = 1 → (∃ t8, q_R σ 0 12 = some t8 ∧ q_isTw t8 ∧ Q (some (.int (q_I σ t8 14))) σ)) ∧ (p0.toInt = 2 → (∃ t11, q_R σ 0 12 = some t11 ∧ q_isTw t11 ∧ Q (some (.int (q_I σ t11 15))) σ)) ∧ (p0.toInt = 3 → (∃ t14, q_R σ 0 12 = some t14 ∧ q_isTw t14 ∧ Q (some (.int (q_I σ t14 16))) σ)) ∧ (p0.toInt = 4 → (∃ t17, q_R σ 0 12 = some t17 ∧ q_isTw t17 ∧ Q (some (.int (q_I σ t17 17))) σ)) ∧ (p0.toInt = 5 → Q (some (.int (q_I σ 15 3))) σ) ∧ (p0.toInt = 6 → Q (some (.int (q_I σ 15 4))) σ) ∧ (p0.toInt = 7 → q_Call G d 0 0 X_W_sum [.ref 17] σ (q_ri (fun x24 σ22 => Q (some (.int x24)) σ22))) ∧ (p0.toInt = 8 → q_Call G d 0 0 X_W_sum [.ref 18] σ (q_ri (fun x29 σ27 => Q (some (.int x29)) σ27))) ∧ (p0.toInt = 9 → (∃ t32, q_R σ 0 14 = some t32 ∧ q_isDy t32 ∧ Q (some (.int (q_I σ t32 4))) σ)) ∧ (p0.toInt = 10 → Q (some (.int (q_I σ 14 2))) σ) ∧ (p0.toInt = 11 → Q (some (.int (q_I σ 0 17))) σ) ∧ (p0.toInt = 12 → Q (some (.int (q_I σ 1 1))) σ)))) : q_At G X_W_count (d + 1) 0 0 0 [some (.ref 0), some (.int p0)] [] σ Q := by
  refine q_iload_n o_W_count_0 rfl ?_
  rcases q_sw 0 12 p0 with c0 | ⟨kk, c1, c2, c3⟩
  · have h1 := h.1 c0
    refine q_tabOut (tgt := 175) o_W_count_1 c0 (by decide) ?_
    refine q_iconst (v := (-1)) o_W_count_175 (by decide) ?_
    exact q_ire o_W_count_176 rfl h1
  · have h2 := h.2
    have hx : p0.toInt = 0 + (kk : Int) := c3
    have hkk : kk = 0 ∨ kk = 1 ∨ kk = 2 ∨ kk = 3 ∨ kk = 4 ∨ kk = 5 ∨ kk = 6 ∨ kk = 7 ∨ kk = 8 ∨ kk = 9 ∨ kk = 10 ∨ kk = 11 ∨ kk = 12 := by omega
    rcases hkk with rfl | rfl | rfl | rfl | rfl | rfl | rfl | rfl | rfl | rfl | rfl | rfl | rfl
    · have h3 := h2.1 (by simpa using hx)
      refine q_tabIn (tgt := 68) (off := 67) o_W_count_1 c1 c2 (by rw [show p0.toInt = 0 by simpa using hx]; rfl) (by decide) ?_
      refine q_aload_n o_W_count_68 rfl ?_
      obtain ⟨t5, eh4, bh4, h4⟩ := h3
      refine q2_getR hs o_W_count_69 f_W_83 rfl eh4 ?_
      refine q2_getI hs o_W_count_72 f_W_340 (kd_Tw_0 bh4) ?_
      exact q_ire o_W_count_75 rfl h4
    · have h6 := h2.2.1 (by simpa using hx)
      refine q_tabIn (tgt := 76) (off := 75) o_W_count_1 c1 c2 (by rw [show p0.toInt = 1 by simpa using hx]; rfl) (by decide) ?_
      refine q_aload_n o_W_count_76 rfl ?_
      obtain ⟨t8, eh7, bh7, h7⟩ := h6
      refine q2_getR hs o_W_count_77 f_W_83 rfl eh7 ?_
      refine q2_getI hs o_W_count_80 f_W_306 (kd_Tw_0 bh7) ?_
      exact q_ire o_W_count_83 rfl h7
    · have h9 := h2.2.2.1 (by simpa using hx)
      refine q_tabIn (tgt := 84) (off := 83) o_W_count_1 c1 c2 (by rw [show p0.toInt = 2 by simpa using hx]; rfl) (by decide) ?_
      refine q_aload_n o_W_count_84 rfl ?_
      obtain ⟨t11, eh10, bh10, h10⟩ := h9
      refine q2_getR hs o_W_count_85 f_W_83 rfl eh10 ?_
      refine q2_getI hs o_W_count_88 f_W_241 (kd_Tw_0 bh10) ?_
      exact q_ire o_W_count_91 rfl h10
    · have h12 := h2.2.2.2.1 (by simpa using hx)
      refine q_tabIn (tgt := 92) (off := 91) o_W_count_1 c1 c2 (by rw [show p0.toInt = 3 by simpa using hx]; rfl) (by decide) ?_
      refine q_aload_n o_W_count_92 rfl ?_
      obtain ⟨t14, eh13, bh13, h13⟩ := h12
      refine q2_getR hs o_W_count_93 f_W_83 rfl eh13 ?_
      refine q2_getI hs o_W_count_96 f_W_343 (kd_Tw_0 bh13) ?_
      exact q_ire o_W_count_99 rfl h13
    · have h15 := h2.2.2.2.2.1 (by simpa using hx)
      refine q_tabIn (tgt := 100) (off := 99) o_W_count_1 c1 c2 (by rw [show p0.toInt = 4 by simpa using hx]; rfl) (by decide) ?_
      refine q_aload_n o_W_count_100 rfl ?_
      obtain ⟨t17, eh16, bh16, h16⟩ := h15
      refine q2_getR hs o_W_count_101 f_W_83 rfl eh16 ?_
      refine q2_getI hs o_W_count_104 f_W_346 (kd_Tw_0 bh16) ?_
      exact q_ire o_W_count_107 rfl h16
    · have h18 := h2.2.2.2.2.2.1 (by simpa using hx)
      refine q_tabIn (tgt := 108) (off := 107) o_W_count_1 c1 c2 (by rw [show p0.toInt = 5 by simpa using hx]; rfl) (by decide) ?_
      refine q_aload_n o_W_count_108 rfl ?_
      refine q2_getR hs o_W_count_109 f_W_58 rfl (fz_0_6 hs) ?_
      refine q2_getI hs o_W_count_112 f_W_349 rfl ?_
      exact q_ire o_W_count_115 rfl h18
    · have h19 := h2.2.2.2.2.2.2.1 (by simpa using hx)
      refine q_tabIn (tgt := 116) (off := 115) o_W_count_1 c1 c2 (by rw [show p0.toInt = 6 by simpa using hx]; rfl) (by decide) ?_
      refine q_aload_n o_W_count_116 rfl ?_
      refine q2_getR hs o_W_count_117 f_W_58 rfl (fz_0_6 hs) ?_
      refine q2_getI hs o_W_count_120 f_W_234 rfl ?_
      exact q_ire o_W_count_123 rfl h19
    · have h20 := h2.2.2.2.2.2.2.2.1 (by simpa using hx)
      refine q_tabIn (tgt := 124) (off := 123) o_W_count_1 c1 c2 (by rw [show p0.toInt = 7 by simpa using hx]; rfl) (by decide) ?_
      refine q_aload_n o_W_count_124 rfl ?_
      refine q2_getR hs o_W_count_125 f_W_58 rfl (fz_0_6 hs) ?_
      refine q2_getR hs o_W_count_128 f_W_147 rfl (fz_15_1 hs) ?_
      refine q2_callSi _ (As := [.ref 17]) (st := []) hs o_W_count_131 k_W_352 rfl (Nat.le_of_ble_eq_true rfl) h20 (fun x24 σ22 hs23 h21 => ?_)
      exact q_ire o_W_count_134 rfl h21
    · have h25 := h2.2.2.2.2.2.2.2.2.1 (by simpa using hx)
      refine q_tabIn (tgt := 135) (off := 134) o_W_count_1 c1 c2 (by rw [show p0.toInt = 8 by simpa using hx]; rfl) (by decide) ?_
      refine q_aload_n o_W_count_135 rfl ?_
      refine q2_getR hs o_W_count_136 f_W_58 rfl (fz_0_6 hs) ?_
      refine q2_getR hs o_W_count_139 f_W_166 rfl (fz_15_2 hs) ?_
      refine q2_callSi _ (As := [.ref 18]) (st := []) hs o_W_count_142 k_W_352 rfl (Nat.le_of_ble_eq_true rfl) h25 (fun x29 σ27 hs28 h26 => ?_)
      exact q_ire o_W_count_145 rfl h26
    · have h30 := h2.2.2.2.2.2.2.2.2.2.1 (by simpa using hx)
      refine q_tabIn (tgt := 146) (off := 145) o_W_count_1 c1 c2 (by rw [show p0.toInt = 9 by simpa using hx]; rfl) (by decide) ?_
      refine q_aload_n o_W_count_146 rfl ?_
      obtain ⟨t32, eh31, bh31, h31⟩ := h30
      refine q2_getR hs o_W_count_147 f_W_93 rfl eh31 ?_
      refine q2_getI hs o_W_count_150 f_W_219 (kd_Dy_0 bh31) ?_
      exact q_ire o_W_count_153 rfl h31
    · have h33 := h2.2.2.2.2.2.2.2.2.2.2.1 (by simpa using hx)
      refine q_tabIn (tgt := 154) (off := 153) o_W_count_1 c1 c2 (by rw [show p0.toInt = 10 by simpa using hx]; rfl) (by decide) ?_
      refine q_aload_n o_W_count_154 rfl ?_
      refine q2_getR hs o_W_count_155 f_W_51 rfl (fz_0_5 hs) ?_
      refine q2_getI hs o_W_count_158 f_W_291 rfl ?_
      exact q_ire o_W_count_161 rfl h33
    · have h34 := h2.2.2.2.2.2.2.2.2.2.2.2.1 (by simpa using hx)
      refine q_tabIn (tgt := 162) (off := 161) o_W_count_1 c1 c2 (by rw [show p0.toInt = 11 by simpa using hx]; rfl) (by decide) ?_
      refine q_aload_n o_W_count_162 rfl ?_
      refine q2_getI hs o_W_count_163 f_W_205 rfl ?_
      exact q_ire o_W_count_166 rfl h34
    · have h35 := h2.2.2.2.2.2.2.2.2.2.2.2.2 (by simpa using hx)
      refine q_tabIn (tgt := 167) (off := 166) o_W_count_1 c1 c2 (by rw [show p0.toInt = 12 by simpa using hx]; rfl) (by decide) ?_
      refine q_aload_n o_W_count_167 rfl ?_
      refine q2_getR hs o_W_count_168 f_W_10 rfl (fz_0_0 hs) ?_
      refine q2_getI hs o_W_count_171 f_W_104 rfl ?_
      exact q_ire o_W_count_174 rfl h35

set_option maxRecDepth 20000 in
theorem v_W_startAnew_0 {G : q_G} {d : Nat} {σ : q_S} {Q : Option Value → q_S → Prop}   (hs : q_Sh σ) (h : (∃ t2, q_R σ 0 12 = some t2 ∧ q_isTw t2 ∧ q_Call G d 0 0 X_Li_begin [.ref 15, .ref t2] σ (q_rv (fun σ4 => (∃ t7, q_R σ4 0 14 = some t7 ∧ q_isDy t7 ∧ q_Call G d 0 0 X_Tl_forget [.ref 14] (q_setI σ4 t7 4 0) (q_rv (fun σ9 => q_At G X_W_startAnew (d + 1) 0 0 33 [some (.ref 0), some (.int 0)] [] (q_setI σ9 0 17 0) Q))))))) : q_At G X_W_startAnew (d + 1) 0 0 0 [some (.ref 0), none] [] σ Q := by
  refine q_aload_n o_W_startAnew_0 rfl ?_
  refine q2_getR hs o_W_startAnew_1 f_W_58 rfl (fz_0_6 hs) ?_
  refine q_aload_n o_W_startAnew_4 rfl ?_
  obtain ⟨t2, eh1, bh1, h1⟩ := h
  refine q2_getR hs o_W_startAnew_5 f_W_83 rfl eh1 ?_
  refine q2_callVv _ (a := 15) (As := [.ref t2]) (st := []) hs o_W_startAnew_8 k_W_215 rfl rfl (Nat.le_of_ble_eq_true rfl) h1 (fun σ4 hs5 h3 => ?_)
  refine q_aload_n o_W_startAnew_11 rfl ?_
  obtain ⟨t7, eh6, bh6, h6⟩ := h3
  refine q2_getR hs5 o_W_startAnew_12 f_W_93 rfl eh6 ?_
  refine q_iconst (v := 0) o_W_startAnew_15 (by decide) ?_
  refine q2_putI hs5 o_W_startAnew_16 fp_W_219 (kd_Dy_0 bh6) rfl rfl ?_
  refine q_aload_n o_W_startAnew_19 rfl ?_
  refine q2_getR hs5 o_W_startAnew_20 f_W_51 rfl (fz_0_5 hs5) ?_
  refine q2_callVv _ (a := 14) (As := []) (st := []) hs5 o_W_startAnew_23 k_W_355 rfl rfl (Nat.le_of_ble_eq_true rfl) h6 (fun σ9 hs10 h8 => ?_)
  refine q_aload_n o_W_startAnew_26 rfl ?_
  refine q_iconst (v := 0) o_W_startAnew_27 (by decide) ?_
  refine q2_putI hs10 o_W_startAnew_28 fp_W_205 rfl rfl rfl ?_
  refine q_iconst (v := 0) o_W_startAnew_31 (by decide) ?_
  refine q2_istn (ls' := [some (.ref 0), some (.int 0)]) o_W_startAnew_32 (Nat.le_of_ble_eq_true rfl) rfl ?_
  exact h8

set_option maxRecDepth 20000 in
theorem v_W_startAnew_33 {G : q_G} {d : Nat} {σ : q_S} {Q : Option Value → q_S → Prop} {l1 : Int32}  (hs : q_Sh σ) (h : ((4 ≤ l1 → Q none (q_setI σ 5 8 0)) ∧ (¬ 4 ≤ l1 → (∃ k5, l1 = nI k5 ∧ k5 < 4 ∧ q_At G X_W_startAnew (d + 1) 0 0 33 [some (.ref 0), some (.int (l1 + 1))] [] (q_setI σ 26 k5 (vp_nar .boolean 0)) Q)))) : q_At G X_W_startAnew (d + 1) 0 0 33 [some (.ref 0), some (.int l1)] [] σ Q := by
  refine q_iload_n o_W_startAnew_33 rfl ?_
  refine q_iconst (v := 4) o_W_startAnew_34 (by decide) ?_
  refine q_icmp_ge o_W_startAnew_35 (fun c1 => ?_) (fun c1 => ?_)
  · have h2 := h.1 c1
    refine q_aload_n o_W_startAnew_51 rfl ?_
    refine q2_getR hs o_W_startAnew_52 f_W_37 rfl (fz_0_3 hs) ?_
    refine q_iconst (v := 0) o_W_startAnew_55 (by decide) ?_
    refine q2_putI hs o_W_startAnew_56 fp_W_358 rfl rfl rfl ?_
    exact q_vre o_W_startAnew_59 rfl h2
  · have h3 := h.2 c1
    refine q_aload_n o_W_startAnew_38 rfl ?_
    refine q2_getR hs o_W_startAnew_39 f_W_76 rfl (fz_0_11 hs) ?_
    refine q_iload_n o_W_startAnew_42 rfl ?_
    refine q_iconst (v := 0) o_W_startAnew_43 (by decide) ?_
    obtain ⟨k5, eh4, bh4, h4⟩ := h3
    refine q2_zast hs o_W_startAnew_44 rfl eh4 bh4 (by decide) ?_
    refine q2_inc (v := (l1 + 1)) (ls' := [some (.ref 0), some (.int (l1 + 1))]) o_W_startAnew_45 rfl rfl (Nat.le_of_ble_eq_true rfl) rfl ?_
    refine q_goto o_W_startAnew_48 ?_
    exact h4

set_option maxRecDepth 20000 in
theorem v_W_remember_0 {G : q_G} {d : Nat} {σ : q_S} {Q : Option Value → q_S → Prop}   (hs : q_Sh σ) (h : (∃ k2, (q_I σ 0 16) = nI k2 ∧ k2 < 16 ∧ q_Call G d 0 0 X_Li_become [.ref (75 + 4 * k2), .ref 15] σ (q_rv (fun σ4 => Q none (q_setI (q_setI σ4 0 16 (((q_I σ4 0 16) + 1) - ((q_I σ4 0 16) + 1) / 16 * 16)) 0 17 (if 16 < ((q_I (q_setI σ4 0 16 (((q_I σ4 0 16) + 1) - ((q_I σ4 0 16) + 1) / 16 * 16)) 0 17) + 1) then 16 else ((q_I (q_setI σ4 0 16 (((q_I σ4 0 16) + 1) - ((q_I σ4 0 16) + 1) / 16 * 16)) 0 17) + 1))))))) : q_At G X_W_remember (d + 1) 0 0 0 [some (.ref 0)] [] σ Q := by
  refine q_aload_n o_W_remember_0 rfl ?_
  refine q2_getR hs o_W_remember_1 f_W_65 rfl (fz_0_8 hs) ?_
  refine q_aload_n o_W_remember_4 rfl ?_
  refine q2_getI hs o_W_remember_5 f_W_208 rfl ?_
  obtain ⟨k2, eh1, bh1, h1⟩ := h
  refine q2_ald5 hs o_W_remember_8 rfl eh1 bh1 (by decide) (fz_at_23 hs bh1) ?_
  refine q_aload_n o_W_remember_9 rfl ?_
  refine q2_getR hs o_W_remember_10 f_W_58 rfl (fz_0_6 hs) ?_
  refine q2_callVv _ (a := 75 + 4 * k2) (As := [.ref 15]) (st := []) hs o_W_remember_13 k_W_211 (kd_Li_0 (is_at_23 bh1)) rfl (Nat.le_of_ble_eq_true rfl) h1 (fun σ4 hs5 h3 => ?_)
  refine q_aload_n o_W_remember_16 rfl ?_
  refine q_aload_n o_W_remember_17 rfl ?_
  refine q2_getI hs5 o_W_remember_18 f_W_208 rfl ?_
  refine q_iconst (v := 1) o_W_remember_21 (by decide) ?_
  refine q_iadd o_W_remember_22 ?_
  refine q_bipush (v := 16) o_W_remember_23 (by decide) ?_
  refine q_irem o_W_remember_25 (by decide) ?_
  refine q2_putI hs5 o_W_remember_26 fp_W_208 rfl rfl rfl ?_
  refine q_aload_n o_W_remember_29 rfl ?_
  refine q_aload_n o_W_remember_30 rfl ?_
  refine q2_getI hs5 o_W_remember_31 f_W_205 rfl ?_
  refine q_iconst (v := 1) o_W_remember_34 (by decide) ?_
  refine q_iadd o_W_remember_35 ?_
  refine q_bipush (v := 16) o_W_remember_36 (by decide) ?_
  refine q_min o_W_remember_38 k_W_362 (Nat.le_of_ble_eq_true rfl) ?_
  refine q2_putI hs5 o_W_remember_41 fp_W_205 rfl rfl rfl ?_
  exact q_vre o_W_remember_44 rfl h3

set_option maxRecDepth 20000 in
theorem v_W_isHouse_0 {G : q_G} {d : Nat} {σ : q_S} {Q : Option Value → q_S → Prop} {p0 : Int32}  (hs : q_Sh σ) (h : ((p0 < 0 → Q (some (.int 0)) σ) ∧ (¬ p0 < 0 → (∃ t5, q_R σ 0 12 = some t5 ∧ q_isTw t5 ∧ (narrow .boolean (.int (if (q_I σ t5 13) ≤ p0 then (0 : Int32) else (1 : Int32))) = .int (if (q_I σ t5 13) ≤ p0 then (0 : Int32) else (1 : Int32)) ∧ Q (some (.int (if (q_I σ t5 13) ≤ p0 then (0 : Int32) else (1 : Int32)))) σ))))) : q_At G X_W_isHouse d 0 0 0 [some (.ref 0), some (.int p0)] [] σ Q := by
  refine q_iload_n o_W_isHouse_0 rfl ?_
  refine q_if_lt o_W_isHouse_1 (fun c1 => ?_) (fun c1 => ?_)
  · have h2 := h.1 c1
    refine q_iconst (v := 0) o_W_isHouse_19 (by decide) ?_
    exact q_zre o_W_isHouse_20 rfl rfl h2
  · have h3 := h.2 c1
    refine q_iload_n o_W_isHouse_4 rfl ?_
    refine q_aload_n o_W_isHouse_5 rfl ?_
    obtain ⟨t5, eh4, bh4, h4⟩ := h3
    refine q2_getR hs o_W_isHouse_6 f_W_83 rfl eh4 ?_
    refine q2_getI hs o_W_isHouse_9 f_W_340 (kd_Tw_0 bh4) ?_
    have hJ : ∀ vJ : Int32, vJ = (if (q_I σ t5 13) ≤ p0 then (0 : Int32) else (1 : Int32)) → q_At G X_W_isHouse d 0 0 20 [some (.ref 0), some (.int p0)] [.int vJ] σ Q := by
      intro vJ eJ
      rw [eJ]
      clear eJ vJ
      exact q_zre o_W_isHouse_20 rfl h4.1 h4.2
    refine q_icmp_ge o_W_isHouse_12 (fun c6 => ?_) (fun c6 => ?_)
    · refine q_iconst (v := 0) o_W_isHouse_19 (by decide) ?_
      exact hJ _ (Eq.symm (if_pos c6))
    · refine q_iconst (v := 1) o_W_isHouse_15 (by decide) ?_
      refine q_goto o_W_isHouse_16 ?_
      exact hJ _ (Eq.symm (if_neg c6))

set_option maxRecDepth 20000 in
theorem v_W_isFamily_0 {G : q_G} {d : Nat} {σ : q_S} {Q : Option Value → q_S → Prop} {p0 : Int32}  (hs : q_Sh σ) (h : ((p0 < 0 → Q (some (.int 0)) σ) ∧ (¬ p0 < 0 → (∃ t5, q_R σ 0 12 = some t5 ∧ q_isTw t5 ∧ (narrow .boolean (.int (if (q_I σ t5 14) ≤ p0 then (0 : Int32) else (1 : Int32))) = .int (if (q_I σ t5 14) ≤ p0 then (0 : Int32) else (1 : Int32)) ∧ Q (some (.int (if (q_I σ t5 14) ≤ p0 then (0 : Int32) else (1 : Int32)))) σ))))) : q_At G X_W_isFamily d 0 0 0 [some (.ref 0), some (.int p0)] [] σ Q := by
  refine q_iload_n o_W_isFamily_0 rfl ?_
  refine q_if_lt o_W_isFamily_1 (fun c1 => ?_) (fun c1 => ?_)
  · have h2 := h.1 c1
    refine q_iconst (v := 0) o_W_isFamily_19 (by decide) ?_
    exact q_zre o_W_isFamily_20 rfl rfl h2
  · have h3 := h.2 c1
    refine q_iload_n o_W_isFamily_4 rfl ?_
    refine q_aload_n o_W_isFamily_5 rfl ?_
    obtain ⟨t5, eh4, bh4, h4⟩ := h3
    refine q2_getR hs o_W_isFamily_6 f_W_83 rfl eh4 ?_
    refine q2_getI hs o_W_isFamily_9 f_W_306 (kd_Tw_0 bh4) ?_
    have hJ : ∀ vJ : Int32, vJ = (if (q_I σ t5 14) ≤ p0 then (0 : Int32) else (1 : Int32)) → q_At G X_W_isFamily d 0 0 20 [some (.ref 0), some (.int p0)] [.int vJ] σ Q := by
      intro vJ eJ
      rw [eJ]
      clear eJ vJ
      exact q_zre o_W_isFamily_20 rfl h4.1 h4.2
    refine q_icmp_ge o_W_isFamily_12 (fun c6 => ?_) (fun c6 => ?_)
    · refine q_iconst (v := 0) o_W_isFamily_19 (by decide) ?_
      exact hJ _ (Eq.symm (if_pos c6))
    · refine q_iconst (v := 1) o_W_isFamily_15 (by decide) ?_
      refine q_goto o_W_isFamily_16 ?_
      exact hJ _ (Eq.symm (if_neg c6))

set_option maxRecDepth 20000 in
theorem v_W_areTwo_0 {G : q_G} {d : Nat} {σ : q_S} {Q : Option Value → q_S → Prop} {p0 : Int32} {p1 : Int32}  (hs : q_Sh σ) (h : q_Call G d 0 0 X_W_isFamily [.ref 0, .int p0] σ (q_ri (fun x4 σ2 => ((x4 = 0 → Q (some (.int 0)) σ2) ∧ (¬ x4 = 0 → q_Call G d 0 0 X_W_isFamily [.ref 0, .int p1] σ2 (q_ri (fun x11 σ9 => (narrow .boolean (.int (if x11 = 0 then (0 : Int32) else (if p0 = p1 then (0 : Int32) else (1 : Int32)))) = .int (if x11 = 0 then (0 : Int32) else (if p0 = p1 then (0 : Int32) else (1 : Int32))) ∧ Q (some (.int (if x11 = 0 then (0 : Int32) else (if p0 = p1 then (0 : Int32) else (1 : Int32))))) σ9)))))))) : q_At G X_W_areTwo (d + 1) 0 0 0 [some (.ref 0), some (.int p0), some (.int p1)] [] σ Q := by
  refine q_aload_n o_W_areTwo_0 rfl ?_
  refine q_iload_n o_W_areTwo_1 rfl ?_
  refine q2_callVi _ (a := 0) (As := [.int p0]) (st := []) hs o_W_areTwo_2 k_W_134 rfl rfl (Nat.le_of_ble_eq_true rfl) h (fun x4 σ2 hs3 h1 => ?_)
  refine q_if_eq o_W_areTwo_5 (fun c5 => ?_) (fun c5 => ?_)
  · have h6 := h1.1 c5
    refine q_iconst (v := 0) o_W_areTwo_25 (by decide) ?_
    exact q_zre o_W_areTwo_26 rfl rfl h6
  · have h7 := h1.2 c5
    refine q_aload_n o_W_areTwo_8 rfl ?_
    refine q_iload_n o_W_areTwo_9 rfl ?_
    refine q2_callVi _ (a := 0) (As := [.int p1]) (st := []) hs3 o_W_areTwo_10 k_W_134 rfl rfl (Nat.le_of_ble_eq_true rfl) h7 (fun x11 σ9 hs10 h8 => ?_)
    have hJ : ∀ vJ : Int32, vJ = (if x11 = 0 then (0 : Int32) else (if p0 = p1 then (0 : Int32) else (1 : Int32))) → q_At G X_W_areTwo (d + 1) 0 0 26 [some (.ref 0), some (.int p0), some (.int p1)] [.int vJ] σ9 Q := by
      intro vJ eJ
      rw [eJ]
      clear eJ vJ
      exact q_zre o_W_areTwo_26 rfl h8.1 h8.2
    refine q_if_eq o_W_areTwo_13 (fun c12 => ?_) (fun c12 => ?_)
    · refine q_iconst (v := 0) o_W_areTwo_25 (by decide) ?_
      exact hJ _ (Eq.symm (if_pos c12))
    · refine q_iload_n o_W_areTwo_16 rfl ?_
      refine q_iload_n o_W_areTwo_17 rfl ?_
      refine q_icmp_eq o_W_areTwo_18 (fun c13 => ?_) (fun c13 => ?_)
      · refine q_iconst (v := 0) o_W_areTwo_25 (by decide) ?_
        exact hJ _ (Eq.symm ((if_neg c12).trans (if_pos c13)))
      · refine q_iconst (v := 1) o_W_areTwo_21 (by decide) ?_
        refine q_goto o_W_areTwo_22 ?_
        exact hJ _ (Eq.symm ((if_neg c12).trans (if_neg c13)))

set_option maxRecDepth 20000 in
theorem v_W_isSeed_0 {G : q_G} {d : Nat} {σ : q_S} {Q : Option Value → q_S → Prop} {p0 : Int32}  (hs : q_Sh σ) (h : (narrow .boolean (.int (if p0 < 0 then (0 : Int32) else (if 9999 < p0 then (0 : Int32) else (1 : Int32)))) = .int (if p0 < 0 then (0 : Int32) else (if 9999 < p0 then (0 : Int32) else (1 : Int32))) ∧ Q (some (.int (if p0 < 0 then (0 : Int32) else (if 9999 < p0 then (0 : Int32) else (1 : Int32))))) σ)) : q_At G X_W_isSeed d 0 0 0 [some (.int p0)] [] σ Q := by
  refine q_iload_n o_W_isSeed_0 rfl ?_
  have hJ : ∀ vJ : Int32, vJ = (if p0 < 0 then (0 : Int32) else (if 9999 < p0 then (0 : Int32) else (1 : Int32))) → q_At G X_W_isSeed d 0 0 16 [some (.int p0)] [.int vJ] σ Q := by
    intro vJ eJ
    rw [eJ]
    clear eJ vJ
    exact q_zre o_W_isSeed_16 rfl h.1 h.2
  refine q_if_lt o_W_isSeed_1 (fun c1 => ?_) (fun c1 => ?_)
  · refine q_iconst (v := 0) o_W_isSeed_15 (by decide) ?_
    exact hJ _ (Eq.symm (if_pos c1))
  · refine q_iload_n o_W_isSeed_4 rfl ?_
    refine q_sipush (v := 9999) o_W_isSeed_5 (by decide) ?_
    refine q_icmp_gt o_W_isSeed_8 (fun c2 => ?_) (fun c2 => ?_)
    · refine q_iconst (v := 0) o_W_isSeed_15 (by decide) ?_
      exact hJ _ (Eq.symm ((if_neg c1).trans (if_pos c2)))
    · refine q_iconst (v := 1) o_W_isSeed_11 (by decide) ?_
      refine q_goto o_W_isSeed_12 ?_
      exact hJ _ (Eq.symm ((if_neg c1).trans (if_neg c2)))

set_option maxRecDepth 20000 in
theorem v_W_isSum_0 {G : q_G} {d : Nat} {σ : q_S} {Q : Option Value → q_S → Prop} {p0 : Int32}  (hs : q_Sh σ) (h : (narrow .boolean (.int (if p0 < 1 then (0 : Int32) else (if 999 < p0 then (0 : Int32) else (1 : Int32)))) = .int (if p0 < 1 then (0 : Int32) else (if 999 < p0 then (0 : Int32) else (1 : Int32))) ∧ Q (some (.int (if p0 < 1 then (0 : Int32) else (if 999 < p0 then (0 : Int32) else (1 : Int32))))) σ)) : q_At G X_W_isSum d 0 0 0 [some (.int p0)] [] σ Q := by
  refine q_iload_n o_W_isSum_0 rfl ?_
  refine q_iconst (v := 1) o_W_isSum_1 (by decide) ?_
  have hJ : ∀ vJ : Int32, vJ = (if p0 < 1 then (0 : Int32) else (if 999 < p0 then (0 : Int32) else (1 : Int32))) → q_At G X_W_isSum d 0 0 17 [some (.int p0)] [.int vJ] σ Q := by
    intro vJ eJ
    rw [eJ]
    clear eJ vJ
    exact q_zre o_W_isSum_17 rfl h.1 h.2
  refine q_icmp_lt o_W_isSum_2 (fun c1 => ?_) (fun c1 => ?_)
  · refine q_iconst (v := 0) o_W_isSum_16 (by decide) ?_
    exact hJ _ (Eq.symm (if_pos c1))
  · refine q_iload_n o_W_isSum_5 rfl ?_
    refine q_sipush (v := 999) o_W_isSum_6 (by decide) ?_
    refine q_icmp_gt o_W_isSum_9 (fun c2 => ?_) (fun c2 => ?_)
    · refine q_iconst (v := 0) o_W_isSum_16 (by decide) ?_
      exact hJ _ (Eq.symm ((if_neg c1).trans (if_pos c2)))
    · refine q_iconst (v := 1) o_W_isSum_12 (by decide) ?_
      refine q_goto o_W_isSum_13 ?_
      exact hJ _ (Eq.symm ((if_neg c1).trans (if_neg c2)))

set_option maxRecDepth 20000 in
theorem v_W_within_0 {G : q_G} {d : Nat} {σ : q_S} {Q : Option Value → q_S → Prop} {p0 : Int32} {p1 : Int32} {p2 : Int32}  (hs : q_Sh σ) (h : Q (some (.int (if p0 < (if p2 < p1 then p2 else p1) then (if p2 < p1 then p2 else p1) else p0))) σ) : q_At G X_W_within (d + 1) 0 0 0 [some (.int p0), some (.int p1), some (.int p2)] [] σ Q := by
  refine q_iload_n o_W_within_0 rfl ?_
  refine q_iload_n o_W_within_1 rfl ?_
  refine q_iload_n o_W_within_2 rfl ?_
  refine q_min o_W_within_3 k_W_362 (Nat.le_of_ble_eq_true rfl) ?_
  refine q_max o_W_within_6 k_W_309 (Nat.le_of_ble_eq_true rfl) ?_
  exact q_ire o_W_within_9 rfl h

set_option maxRecDepth 20000 in
theorem v_W_sum_0 {G : q_G} {d : Nat} {σ : q_S} {Q : Option Value → q_S → Prop} {p0 : Nat} {p0n : Nat} (hp0 : q_kd p0 = (1, p0n)) (bp0 : p0n < 2 ^ 31) (hs : q_Sh σ) (h : q_At G X_W_sum d 0 0 4 [some (.ref p0), some (.int 0), some (.int 0)] [] σ Q) : q_At G X_W_sum d 0 0 0 [some (.ref p0), none, none] [] σ Q := by
  refine q_iconst (v := 0) o_W_sum_0 (by decide) ?_
  refine q2_istn (ls' := [some (.ref p0), some (.int 0), none]) o_W_sum_1 (Nat.le_of_ble_eq_true rfl) rfl ?_
  refine q_iconst (v := 0) o_W_sum_2 (by decide) ?_
  refine q2_istn (ls' := [some (.ref p0), some (.int 0), some (.int 0)]) o_W_sum_3 (Nat.le_of_ble_eq_true rfl) rfl ?_
  exact h

set_option maxRecDepth 20000 in
theorem v_W_sum_4 {G : q_G} {d : Nat} {σ : q_S} {Q : Option Value → q_S → Prop} {p0 : Nat} {p0n : Nat} {l1 : Int32} {l2 : Int32} (hp0 : q_kd p0 = (1, p0n)) (bp0 : p0n < 2 ^ 31) (hs : q_Sh σ) (h : (((nI p0n) ≤ l2 → Q (some (.int l1)) σ) ∧ (¬ (nI p0n) ≤ l2 → (∃ k5, l2 = nI k5 ∧ k5 < p0n ∧ q_At G X_W_sum d 0 0 4 [some (.ref p0), some (.int (l1 + (q_I σ p0 k5))), some (.int (l2 + 1))] [] σ Q)))) : q_At G X_W_sum d 0 0 4 [some (.ref p0), some (.int l1), some (.int l2)] [] σ Q := by
  refine q_iload_n o_W_sum_4 rfl ?_
  refine q_aload_n o_W_sum_5 rfl ?_
  refine q2_alen hs o_W_sum_6 hp0 (by decide) (by decide) ?_
  refine q_icmp_ge o_W_sum_7 (fun c1 => ?_) (fun c1 => ?_)
  · have h2 := h.1 c1
    refine q_iload_n o_W_sum_22 rfl ?_
    exact q_ire o_W_sum_23 rfl h2
  · have h3 := h.2 c1
    refine q_iload_n o_W_sum_10 rfl ?_
    refine q_aload_n o_W_sum_11 rfl ?_
    refine q_iload_n o_W_sum_12 rfl ?_
    obtain ⟨k5, eh4, bh4, h4⟩ := h3
    refine q2_iald hs o_W_sum_13 hp0 eh4 bh4 bp0 ?_
    refine q_iadd o_W_sum_14 ?_
    refine q2_istn (ls' := [some (.ref p0), some (.int (l1 + (q_I σ p0 k5))), some (.int l2)]) o_W_sum_15 (Nat.le_of_ble_eq_true rfl) rfl ?_
    refine q2_inc (v := (l2 + 1)) (ls' := [some (.ref p0), some (.int (l1 + (q_I σ p0 k5))), some (.int (l2 + 1))]) o_W_sum_16 rfl rfl (Nat.le_of_ble_eq_true rfl) rfl ?_
    refine q_goto o_W_sum_19 ?_
    exact h4

set_option maxRecDepth 20000 in
theorem v_W_pairBit_0 {G : q_G} {d : Nat} {σ : q_S} {Q : Option Value → q_S → Prop} {p0 : Int32} {p1 : Int32}  (hs : q_Sh σ) (h : Q (some (.long ((1 : Int64) <<< ((((if p1 < p0 then p1 else p0) * 6) + (if p0 < p1 then p1 else p0)).toInt64 &&& 63)))) σ) : q_At G X_W_pairBit (d + 1) 0 0 0 [some (.int p0), some (.int p1)] [] σ Q := by
  refine q_lconst (v := 1) o_W_pairBit_0 (by decide) ?_
  refine q_iload_n o_W_pairBit_1 rfl ?_
  refine q_iload_n o_W_pairBit_2 rfl ?_
  refine q_min o_W_pairBit_3 k_W_362 (Nat.le_of_ble_eq_true rfl) ?_
  refine q_bipush (v := 6) o_W_pairBit_6 (by decide) ?_
  refine q_imul o_W_pairBit_8 ?_
  refine q_iload_n o_W_pairBit_9 rfl ?_
  refine q_iload_n o_W_pairBit_10 rfl ?_
  refine q_max o_W_pairBit_11 k_W_309 (Nat.le_of_ble_eq_true rfl) ?_
  refine q_iadd o_W_pairBit_14 ?_
  refine q_lshl o_W_pairBit_15 ?_
  exact q_lre o_W_pairBit_16 rfl h

set_option maxRecDepth 20000 in
theorem v_W_power_0 {G : q_G} {d : Nat} {σ : q_S} {Q : Option Value → q_S → Prop} {p0 : Int32} {p1 : Int32}  (hs : q_Sh σ) (h : q_At G X_W_power d 0 0 5 [some (.int p0), some (.int p1), some (.long 1), none, some (.int 0)] [] σ Q) : q_At G X_W_power d 0 0 0 [some (.int p0), some (.int p1), none, none, none] [] σ Q := by
  refine q_lconst (v := 1) o_W_power_0 (by decide) ?_
  refine q2_lstn (ls' := [some (.int p0), some (.int p1), some (.long 1), none, none]) o_W_power_1 (Nat.le_of_ble_eq_true rfl) rfl ?_
  refine q_iconst (v := 0) o_W_power_2 (by decide) ?_
  refine q2_ist (ls' := [some (.int p0), some (.int p1), some (.long 1), none, some (.int 0)]) o_W_power_3 (Nat.le_of_ble_eq_true rfl) rfl ?_
  exact h

set_option maxRecDepth 20000 in
theorem v_W_power_5 {G : q_G} {d : Nat} {σ : q_S} {Q : Option Value → q_S → Prop} {p0 : Int32} {p1 : Int32} {l2 : Int64} {l4 : Int32}  (hs : q_Sh σ) (h : ((p1 ≤ l4 → Q (some (.long l2)) σ) ∧ (¬ p1 ≤ l4 → q_At G X_W_power d 0 0 5 [some (.int p0), some (.int p1), some (.long (l2 * p0.toInt64)), none, some (.int (l4 + 1))] [] σ Q))) : q_At G X_W_power d 0 0 5 [some (.int p0), some (.int p1), some (.long l2), none, some (.int l4)] [] σ Q := by
  refine q_iload o_W_power_5 rfl ?_
  refine q_iload_n o_W_power_7 rfl ?_
  refine q_icmp_ge o_W_power_8 (fun c1 => ?_) (fun c1 => ?_)
  · have h2 := h.1 c1
    refine q_lload_n o_W_power_22 rfl ?_
    exact q_lre o_W_power_23 rfl h2
  · have h3 := h.2 c1
    refine q_lload_n o_W_power_11 rfl ?_
    refine q_iload_n o_W_power_12 rfl ?_
    refine q_i2l o_W_power_13 ?_
    refine q_lmul o_W_power_14 ?_
    refine q2_lstn (ls' := [some (.int p0), some (.int p1), some (.long (l2 * p0.toInt64)), none, some (.int l4)]) o_W_power_15 (Nat.le_of_ble_eq_true rfl) rfl ?_
    refine q2_inc (v := (l4 + 1)) (ls' := [some (.int p0), some (.int p1), some (.long (l2 * p0.toInt64)), none, some (.int (l4 + 1))]) o_W_power_16 rfl rfl (Nat.le_of_ble_eq_true rfl) rfl ?_
    refine q_goto o_W_power_19 ?_
    exact h3

set_option maxRecDepth 20000 in
theorem v_W_choose_0 {G : q_G} {d : Nat} {σ : q_S} {Q : Option Value → q_S → Prop} {p0 : Int32} {p1 : Int32}  (hs : q_Sh σ) (h : q_At G X_W_choose d 0 0 5 [some (.int p0), some (.int p1), some (.long 1), none, some (.int 1)] [] σ Q) : q_At G X_W_choose d 0 0 0 [some (.int p0), some (.int p1), none, none, none] [] σ Q := by
  refine q_lconst (v := 1) o_W_choose_0 (by decide) ?_
  refine q2_lstn (ls' := [some (.int p0), some (.int p1), some (.long 1), none, none]) o_W_choose_1 (Nat.le_of_ble_eq_true rfl) rfl ?_
  refine q_iconst (v := 1) o_W_choose_2 (by decide) ?_
  refine q2_ist (ls' := [some (.int p0), some (.int p1), some (.long 1), none, some (.int 1)]) o_W_choose_3 (Nat.le_of_ble_eq_true rfl) rfl ?_
  exact h

set_option maxRecDepth 20000 in
theorem v_W_choose_5 {G : q_G} {d : Nat} {σ : q_S} {Q : Option Value → q_S → Prop} {p0 : Int32} {p1 : Int32} {l2 : Int64} {l4 : Int32}  (hs : q_Sh σ) (h : ((p1 < l4 → Q (some (.long l2)) σ) ∧ (¬ p1 < l4 → (¬ l4.toInt64 = 0 ∧ q_At G X_W_choose d 0 0 5 [some (.int p0), some (.int p1), some (.long ((l2 * ((p0 - p1) + l4).toInt64) / l4.toInt64)), none, some (.int (l4 + 1))] [] σ Q)))) : q_At G X_W_choose d 0 0 5 [some (.int p0), some (.int p1), some (.long l2), none, some (.int l4)] [] σ Q := by
  refine q_iload o_W_choose_5 rfl ?_
  refine q_iload_n o_W_choose_7 rfl ?_
  refine q_icmp_gt o_W_choose_8 (fun c1 => ?_) (fun c1 => ?_)
  · have h2 := h.1 c1
    refine q_lload_n o_W_choose_31 rfl ?_
    exact q_lre o_W_choose_32 rfl h2
  · have h3 := h.2 c1
    refine q_lload_n o_W_choose_11 rfl ?_
    refine q_iload_n o_W_choose_12 rfl ?_
    refine q_iload_n o_W_choose_13 rfl ?_
    refine q_isub o_W_choose_14 ?_
    refine q_iload o_W_choose_15 rfl ?_
    refine q_iadd o_W_choose_17 ?_
    refine q_i2l o_W_choose_18 ?_
    refine q_lmul o_W_choose_19 ?_
    refine q_iload o_W_choose_20 rfl ?_
    refine q_i2l o_W_choose_22 ?_
    obtain ⟨h4n, h4⟩ := h3
    refine q_ldiv o_W_choose_23 h4n ?_
    refine q2_lstn (ls' := [some (.int p0), some (.int p1), some (.long ((l2 * ((p0 - p1) + l4).toInt64) / l4.toInt64)), none, some (.int l4)]) o_W_choose_24 (Nat.le_of_ble_eq_true rfl) rfl ?_
    refine q2_inc (v := (l4 + 1)) (ls' := [some (.int p0), some (.int p1), some (.long ((l2 * ((p0 - p1) + l4).toInt64) / l4.toInt64)), none, some (.int (l4 + 1))]) o_W_choose_25 rfl rfl (Nat.le_of_ble_eq_true rfl) rfl ?_
    refine q_goto o_W_choose_28 ?_
    exact h4
