set_option maxRecDepth 20000 in
theorem v_Tw_forget_0 {G : q_G} {d : Nat} {σ : q_S} {Q : Option Value → q_S → Prop} {a0 : Nat} (ha0 : q_isTw a0) (hs : q_Sh σ) (h : q_At G X_Tw_forget (d + 1) 0 0 27 [some (.ref a0), some (.int 0)] [] (q_setI (q_setI (q_setI (q_setI (q_setI σ a0 13 0) a0 14 0) a0 15 0) a0 16 0) a0 17 0) Q) : q_At G X_Tw_forget (d + 1) 0 0 0 [some (.ref a0), none] [] σ Q := by
  refine q_aload_n o_Tw_forget_0 rfl ?_
  refine q_iconst (v := 0) o_Tw_forget_1 (by decide) ?_
  refine q2_putI hs o_Tw_forget_2 fp_Tw_56 (kd_Tw_0 ha0) rfl rfl ?_
  refine q_aload_n o_Tw_forget_5 rfl ?_
  refine q_iconst (v := 0) o_Tw_forget_6 (by decide) ?_
  refine q2_putI hs o_Tw_forget_7 fp_Tw_60 (kd_Tw_0 ha0) rfl rfl ?_
  refine q_aload_n o_Tw_forget_10 rfl ?_
  refine q_iconst (v := 0) o_Tw_forget_11 (by decide) ?_
  refine q2_putI hs o_Tw_forget_12 fp_Tw_63 (kd_Tw_0 ha0) rfl rfl ?_
  refine q_aload_n o_Tw_forget_15 rfl ?_
  refine q_iconst (v := 0) o_Tw_forget_16 (by decide) ?_
  refine q2_putI hs o_Tw_forget_17 fp_Tw_66 (kd_Tw_0 ha0) rfl rfl ?_
  refine q_aload_n o_Tw_forget_20 rfl ?_
  refine q_iconst (v := 0) o_Tw_forget_21 (by decide) ?_
  refine q2_putI hs o_Tw_forget_22 fp_Tw_69 (kd_Tw_0 ha0) rfl rfl ?_
  refine q_iconst (v := 0) o_Tw_forget_25 (by decide) ?_
  refine q2_istn (ls' := [some (.ref a0), some (.int 0)]) o_Tw_forget_26 (Nat.le_of_ble_eq_true rfl) rfl ?_
  exact h

set_option maxRecDepth 20000 in
theorem v_Tw_forget_27 {G : q_G} {d : Nat} {σ : q_S} {Q : Option Value → q_S → Prop} {a0 : Nat} {l1 : Int32} (ha0 : q_isTw a0) (hs : q_Sh σ) (h : (((nI 36) ≤ l1 → q_Call G d 0 0 X_La_forget [.ref (a0 + 13)] σ (q_rv (fun σ4 => Q none σ4))) ∧ (¬ (nI 36) ≤ l1 → (∃ k8, l1 = nI k8 ∧ k8 < 36 ∧ (∃ k10, l1 = nI k10 ∧ k10 < 36 ∧ (∃ k12, l1 = nI k12 ∧ k12 < 36 ∧ (∃ k14, l1 = nI k14 ∧ k14 < 36 ∧ q_At G X_Tw_forget (d + 1) 0 0 27 [some (.ref a0), some (.int (l1 + 1))] [] (q_setI (q_setI (q_setI (q_setI σ (a0 + 7) k8 0) (a0 + 8) k10 0) (a0 + 9) k12 0) (a0 + 10) k14 0) Q))))))) : q_At G X_Tw_forget (d + 1) 0 0 27 [some (.ref a0), some (.int l1)] [] σ Q := by
  refine q_iload_n o_Tw_forget_27 rfl ?_
  refine q_aload_n o_Tw_forget_28 rfl ?_
  refine q2_getR hs o_Tw_forget_29 f_Tw_31 (kd_Tw_0 ha0) (fz_Tw_6 hs ha0) ?_
  refine q2_alen hs o_Tw_forget_32 (kd_Tw_7 ha0) (by decide) (by decide) ?_
  refine q_icmp_ge o_Tw_forget_33 (fun c1 => ?_) (fun c1 => ?_)
  · have h2 := h.1 c1
    refine q_aload_n o_Tw_forget_70 rfl ?_
    refine q2_getR hs o_Tw_forget_71 f_Tw_52 (kd_Tw_0 ha0) (fz_Tw_12 hs ha0) ?_
    refine q2_callVv _ (a := a0 + 13) (As := []) (st := []) hs o_Tw_forget_74 k_Tw_72 (kd_La_0 (isLa_of_Tw ha0)) rfl (Nat.le_of_ble_eq_true rfl) h2 (fun σ4 hs5 h3 => ?_)
    exact q_vre o_Tw_forget_77 rfl h3
  · have h6 := h.2 c1
    refine q_aload_n o_Tw_forget_36 rfl ?_
    refine q2_getR hs o_Tw_forget_37 f_Tw_31 (kd_Tw_0 ha0) (fz_Tw_6 hs ha0) ?_
    refine q_iload_n o_Tw_forget_40 rfl ?_
    refine q_iconst (v := 0) o_Tw_forget_41 (by decide) ?_
    obtain ⟨k8, eh7, bh7, h7⟩ := h6
    refine q2_iast hs o_Tw_forget_42 (kd_Tw_7 ha0) eh7 bh7 (by decide) ?_
    refine q_aload_n o_Tw_forget_43 rfl ?_
    refine q2_getR hs o_Tw_forget_44 f_Tw_34 (kd_Tw_0 ha0) (fz_Tw_7 hs ha0) ?_
    refine q_iload_n o_Tw_forget_47 rfl ?_
    refine q_iconst (v := 0) o_Tw_forget_48 (by decide) ?_
    obtain ⟨k10, eh9, bh9, h9⟩ := h7
    refine q2_iast hs o_Tw_forget_49 (kd_Tw_8 ha0) eh9 bh9 (by decide) ?_
    refine q_aload_n o_Tw_forget_50 rfl ?_
    refine q2_getR hs o_Tw_forget_51 f_Tw_37 (kd_Tw_0 ha0) (fz_Tw_8 hs ha0) ?_
    refine q_iload_n o_Tw_forget_54 rfl ?_
    refine q_iconst (v := 0) o_Tw_forget_55 (by decide) ?_
    obtain ⟨k12, eh11, bh11, h11⟩ := h9
    refine q2_iast hs o_Tw_forget_56 (kd_Tw_9 ha0) eh11 bh11 (by decide) ?_
    refine q_aload_n o_Tw_forget_57 rfl ?_
    refine q2_getR hs o_Tw_forget_58 f_Tw_40 (kd_Tw_0 ha0) (fz_Tw_9 hs ha0) ?_
    refine q_iload_n o_Tw_forget_61 rfl ?_
    refine q_iconst (v := 0) o_Tw_forget_62 (by decide) ?_
    obtain ⟨k14, eh13, bh13, h13⟩ := h11
    refine q2_iast hs o_Tw_forget_63 (kd_Tw_10 ha0) eh13 bh13 (by decide) ?_
    refine q2_inc (v := (l1 + 1)) (ls' := [some (.ref a0), some (.int (l1 + 1))]) o_Tw_forget_64 rfl rfl (Nat.le_of_ble_eq_true rfl) rfl ?_
    refine q_goto o_Tw_forget_67 ?_
    exact h13

set_option maxRecDepth 20000 in
theorem v_Tw_houseNamed_0 {G : q_G} {d : Nat} {σ : q_S} {Q : Option Value → q_S → Prop} {a0 : Nat} {p0 : Int64} (ha0 : q_isTw a0) (hs : q_Sh σ) (h : q_At G X_Tw_houseNamed d 0 0 2 [some (.ref a0), some (.long p0), none, some (.int 0)] [] σ Q) : q_At G X_Tw_houseNamed d 0 0 0 [some (.ref a0), some (.long p0), none, none] [] σ Q := by
  refine q_iconst (v := 0) o_Tw_houseNamed_0 (by decide) ?_
  refine q2_istn (ls' := [some (.ref a0), some (.long p0), none, some (.int 0)]) o_Tw_houseNamed_1 (Nat.le_of_ble_eq_true rfl) rfl ?_
  exact h

set_option maxRecDepth 20000 in
theorem v_Tw_houseNamed_2 {G : q_G} {d : Nat} {σ : q_S} {Q : Option Value → q_S → Prop} {a0 : Nat} {p0 : Int64} {l3 : Int32} (ha0 : q_isTw a0) (hs : q_Sh σ) (h : (((q_I σ a0 13) ≤ l3 → Q (some (.int (-1))) σ) ∧ (¬ (q_I σ a0 13) ≤ l3 → (∃ k5, l3 = nI k5 ∧ k5 < 6 ∧ ((¬ (lg_cmp (q_L σ (a0 + 1) k5) p0) = 0 → q_At G X_Tw_houseNamed d 0 0 2 [some (.ref a0), some (.long p0), none, some (.int (l3 + 1))] [] σ Q) ∧ ((lg_cmp (q_L σ (a0 + 1) k5) p0) = 0 → Q (some (.int l3)) σ)))))) : q_At G X_Tw_houseNamed d 0 0 2 [some (.ref a0), some (.long p0), none, some (.int l3)] [] σ Q := by
  refine q_iload_n o_Tw_houseNamed_2 rfl ?_
  refine q_aload_n o_Tw_houseNamed_3 rfl ?_
  refine q2_getI hs o_Tw_houseNamed_4 f_Tw_56 (kd_Tw_0 ha0) ?_
  refine q_icmp_ge o_Tw_houseNamed_7 (fun c1 => ?_) (fun c1 => ?_)
  · have h2 := h.1 c1
    refine q_iconst (v := (-1)) o_Tw_houseNamed_29 (by decide) ?_
    exact q_ire o_Tw_houseNamed_30 rfl h2
  · have h3 := h.2 c1
    refine q_aload_n o_Tw_houseNamed_10 rfl ?_
    refine q2_getR hs o_Tw_houseNamed_11 f_Tw_9 (kd_Tw_0 ha0) (fz_Tw_0 hs ha0) ?_
    refine q_iload_n o_Tw_houseNamed_14 rfl ?_
    obtain ⟨k5, eh4, bh4, h4⟩ := h3
    refine q2_lald hs o_Tw_houseNamed_15 (kd_Tw_1 ha0) eh4 bh4 (by decide) ?_
    refine q_lload_n o_Tw_houseNamed_16 rfl ?_
    refine q_lcmp o_Tw_houseNamed_17 ?_
    refine q_if_ne o_Tw_houseNamed_18 (fun c6 => ?_) (fun c6 => ?_)
    · have h7 := h4.1 c6
      refine q2_inc (v := (l3 + 1)) (ls' := [some (.ref a0), some (.long p0), none, some (.int (l3 + 1))]) o_Tw_houseNamed_23 rfl rfl (Nat.le_of_ble_eq_true rfl) rfl ?_
      refine q_goto o_Tw_houseNamed_26 ?_
      exact h7
    · have h8 := h4.2 c6
      refine q_iload_n o_Tw_houseNamed_21 rfl ?_
      exact q_ire o_Tw_houseNamed_22 rfl h8

set_option maxRecDepth 20000 in
theorem v_Tw_familyNamed_0 {G : q_G} {d : Nat} {σ : q_S} {Q : Option Value → q_S → Prop} {a0 : Nat} {p0 : Int64} (ha0 : q_isTw a0) (hs : q_Sh σ) (h : q_At G X_Tw_familyNamed d 0 0 2 [some (.ref a0), some (.long p0), none, some (.int 0)] [] σ Q) : q_At G X_Tw_familyNamed d 0 0 0 [some (.ref a0), some (.long p0), none, none] [] σ Q := by
  refine q_iconst (v := 0) o_Tw_familyNamed_0 (by decide) ?_
  refine q2_istn (ls' := [some (.ref a0), some (.long p0), none, some (.int 0)]) o_Tw_familyNamed_1 (Nat.le_of_ble_eq_true rfl) rfl ?_
  exact h

set_option maxRecDepth 20000 in
theorem v_Tw_familyNamed_2 {G : q_G} {d : Nat} {σ : q_S} {Q : Option Value → q_S → Prop} {a0 : Nat} {p0 : Int64} {l3 : Int32} (ha0 : q_isTw a0) (hs : q_Sh σ) (h : (((q_I σ a0 14) ≤ l3 → Q (some (.int (-1))) σ) ∧ (¬ (q_I σ a0 14) ≤ l3 → (∃ k5, l3 = nI k5 ∧ k5 < 6 ∧ ((¬ (lg_cmp (q_L σ (a0 + 2) k5) p0) = 0 → q_At G X_Tw_familyNamed d 0 0 2 [some (.ref a0), some (.long p0), none, some (.int (l3 + 1))] [] σ Q) ∧ ((lg_cmp (q_L σ (a0 + 2) k5) p0) = 0 → Q (some (.int l3)) σ)))))) : q_At G X_Tw_familyNamed d 0 0 2 [some (.ref a0), some (.long p0), none, some (.int l3)] [] σ Q := by
  refine q_iload_n o_Tw_familyNamed_2 rfl ?_
  refine q_aload_n o_Tw_familyNamed_3 rfl ?_
  refine q2_getI hs o_Tw_familyNamed_4 f_Tw_60 (kd_Tw_0 ha0) ?_
  refine q_icmp_ge o_Tw_familyNamed_7 (fun c1 => ?_) (fun c1 => ?_)
  · have h2 := h.1 c1
    refine q_iconst (v := (-1)) o_Tw_familyNamed_29 (by decide) ?_
    exact q_ire o_Tw_familyNamed_30 rfl h2
  · have h3 := h.2 c1
    refine q_aload_n o_Tw_familyNamed_10 rfl ?_
    refine q2_getR hs o_Tw_familyNamed_11 f_Tw_15 (kd_Tw_0 ha0) (fz_Tw_1 hs ha0) ?_
    refine q_iload_n o_Tw_familyNamed_14 rfl ?_
    obtain ⟨k5, eh4, bh4, h4⟩ := h3
    refine q2_lald hs o_Tw_familyNamed_15 (kd_Tw_2 ha0) eh4 bh4 (by decide) ?_
    refine q_lload_n o_Tw_familyNamed_16 rfl ?_
    refine q_lcmp o_Tw_familyNamed_17 ?_
    refine q_if_ne o_Tw_familyNamed_18 (fun c6 => ?_) (fun c6 => ?_)
    · have h7 := h4.1 c6
      refine q2_inc (v := (l3 + 1)) (ls' := [some (.ref a0), some (.long p0), none, some (.int (l3 + 1))]) o_Tw_familyNamed_23 rfl rfl (Nat.le_of_ble_eq_true rfl) rfl ?_
      refine q_goto o_Tw_familyNamed_26 ?_
      exact h7
    · have h8 := h4.2 c6
      refine q_iload_n o_Tw_familyNamed_21 rfl ?_
      exact q_ire o_Tw_familyNamed_22 rfl h8

set_option maxRecDepth 20000 in
theorem v_Tw_loudness_0 {G : q_G} {d : Nat} {σ : q_S} {Q : Option Value → q_S → Prop} {a0 : Nat} {p0 : Int32} (ha0 : q_isTw a0) (hs : q_Sh σ) (h : (∃ k2, p0 = nI k2 ∧ k2 < 6 ∧ ((¬ (q_I σ (a0 + 3) k2) = 1 → (∃ k6, p0 = nI k6 ∧ k6 < 6 ∧ Q (some (.int (q_I σ (a0 + 4) k6))) σ)) ∧ ((q_I σ (a0 + 3) k2) = 1 → (∃ k9, p0 = nI k9 ∧ k9 < 6 ∧ Q (some (.int (2 * (q_I σ (a0 + 4) k9)))) σ))))) : q_At G X_Tw_loudness d 0 0 0 [some (.ref a0), some (.int p0)] [] σ Q := by
  refine q_aload_n o_Tw_loudness_0 rfl ?_
  refine q2_getR hs o_Tw_loudness_1 f_Tw_18 (kd_Tw_0 ha0) (fz_Tw_2 hs ha0) ?_
  refine q_iload_n o_Tw_loudness_4 rfl ?_
  obtain ⟨k2, eh1, bh1, h1⟩ := h
  refine q2_iald hs o_Tw_loudness_5 (kd_Tw_3 ha0) eh1 bh1 (by decide) ?_
  refine q_iconst (v := 1) o_Tw_loudness_6 (by decide) ?_
  refine q_icmp_ne o_Tw_loudness_7 (fun c3 => ?_) (fun c3 => ?_)
  · have h4 := h1.1 c3
    refine q_aload_n o_Tw_loudness_21 rfl ?_
    refine q2_getR hs o_Tw_loudness_22 f_Tw_22 (kd_Tw_0 ha0) (fz_Tw_3 hs ha0) ?_
    refine q_iload_n o_Tw_loudness_25 rfl ?_
    obtain ⟨k6, eh5, bh5, h5⟩ := h4
    refine q2_iald hs o_Tw_loudness_26 (kd_Tw_4 ha0) eh5 bh5 (by decide) ?_
    exact q_ire o_Tw_loudness_27 rfl h5
  · have h7 := h1.2 c3
    refine q_iconst (v := 2) o_Tw_loudness_10 (by decide) ?_
    refine q_aload_n o_Tw_loudness_11 rfl ?_
    refine q2_getR hs o_Tw_loudness_12 f_Tw_22 (kd_Tw_0 ha0) (fz_Tw_3 hs ha0) ?_
    refine q_iload_n o_Tw_loudness_15 rfl ?_
    obtain ⟨k9, eh8, bh8, h8⟩ := h7
    refine q2_iald hs o_Tw_loudness_16 (kd_Tw_4 ha0) eh8 bh8 (by decide) ?_
    refine q_imul o_Tw_loudness_17 ?_
    refine q_goto o_Tw_loudness_18 ?_
    exact q_ire o_Tw_loudness_27 rfl h8

set_option maxRecDepth 20000 in
theorem v_Tw_hearing_0 {G : q_G} {d : Nat} {σ : q_S} {Q : Option Value → q_S → Prop} {a0 : Nat} {p0 : Int32} (ha0 : q_isTw a0) (hs : q_Sh σ) (h : (∃ k2, p0 = nI k2 ∧ k2 < 6 ∧ ((¬ (q_I σ (a0 + 3) k2) = 2 → (∃ k6, p0 = nI k6 ∧ k6 < 6 ∧ Q (some (.int (q_I σ (a0 + 5) k6))) σ)) ∧ ((q_I σ (a0 + 3) k2) = 2 → Q (some (.int 0)) σ)))) : q_At G X_Tw_hearing d 0 0 0 [some (.ref a0), some (.int p0)] [] σ Q := by
  refine q_aload_n o_Tw_hearing_0 rfl ?_
  refine q2_getR hs o_Tw_hearing_1 f_Tw_18 (kd_Tw_0 ha0) (fz_Tw_2 hs ha0) ?_
  refine q_iload_n o_Tw_hearing_4 rfl ?_
  obtain ⟨k2, eh1, bh1, h1⟩ := h
  refine q2_iald hs o_Tw_hearing_5 (kd_Tw_3 ha0) eh1 bh1 (by decide) ?_
  refine q_iconst (v := 2) o_Tw_hearing_6 (by decide) ?_
  refine q_icmp_ne o_Tw_hearing_7 (fun c3 => ?_) (fun c3 => ?_)
  · have h4 := h1.1 c3
    refine q_aload_n o_Tw_hearing_14 rfl ?_
    refine q2_getR hs o_Tw_hearing_15 f_Tw_25 (kd_Tw_0 ha0) (fz_Tw_4 hs ha0) ?_
    refine q_iload_n o_Tw_hearing_18 rfl ?_
    obtain ⟨k6, eh5, bh5, h5⟩ := h4
    refine q2_iald hs o_Tw_hearing_19 (kd_Tw_5 ha0) eh5 bh5 (by decide) ?_
    exact q_ire o_Tw_hearing_20 rfl h5
  · have h7 := h1.2 c3
    refine q_iconst (v := 0) o_Tw_hearing_10 (by decide) ?_
    refine q_goto o_Tw_hearing_11 ?_
    exact q_ire o_Tw_hearing_20 rfl h7

set_option maxRecDepth 20000 in
theorem v_Tw_fondness_0 {G : q_G} {d : Nat} {σ : q_S} {Q : Option Value → q_S → Prop} {a0 : Nat} {p0 : Int32} {p1 : Int32} (ha0 : q_isTw a0) (hs : q_Sh σ) (h : (∃ k2, ((p0 * 6) + p1) = nI k2 ∧ k2 < 36 ∧ (∃ k4, ((p0 * 6) + p1) = nI k4 ∧ k4 < 36 ∧ Q (some (.int ((q_I σ (a0 + 8) k2) - (q_I σ (a0 + 9) k4)))) σ))) : q_At G X_Tw_fondness d 0 0 0 [some (.ref a0), some (.int p0), some (.int p1), none] [] σ Q := by
  refine q_iload_n o_Tw_fondness_0 rfl ?_
  refine q_bipush (v := 6) o_Tw_fondness_1 (by decide) ?_
  refine q_imul o_Tw_fondness_3 ?_
  refine q_iload_n o_Tw_fondness_4 rfl ?_
  refine q_iadd o_Tw_fondness_5 ?_
  refine q2_istn (ls' := [some (.ref a0), some (.int p0), some (.int p1), some (.int ((p0 * 6) + p1))]) o_Tw_fondness_6 (Nat.le_of_ble_eq_true rfl) rfl ?_
  refine q_aload_n o_Tw_fondness_7 rfl ?_
  refine q2_getR hs o_Tw_fondness_8 f_Tw_34 (kd_Tw_0 ha0) (fz_Tw_7 hs ha0) ?_
  refine q_iload_n o_Tw_fondness_11 rfl ?_
  obtain ⟨k2, eh1, bh1, h1⟩ := h
  refine q2_iald hs o_Tw_fondness_12 (kd_Tw_8 ha0) eh1 bh1 (by decide) ?_
  refine q_aload_n o_Tw_fondness_13 rfl ?_
  refine q2_getR hs o_Tw_fondness_14 f_Tw_37 (kd_Tw_0 ha0) (fz_Tw_8 hs ha0) ?_
  refine q_iload_n o_Tw_fondness_17 rfl ?_
  obtain ⟨k4, eh3, bh3, h3⟩ := h1
  refine q2_iald hs o_Tw_fondness_18 (kd_Tw_9 ha0) eh3 bh3 (by decide) ?_
  refine q_isub o_Tw_fondness_19 ?_
  exact q_ire o_Tw_fondness_20 rfl h3

set_option maxRecDepth 20000 in
theorem v_Tw_listen_0 {G : q_G} {d : Nat} {σ : q_S} {Q : Option Value → q_S → Prop} {a0 : Nat} (ha0 : q_isTw a0) (hs : q_Sh σ) (h : q_At G X_Tw_listen (d + 1) 0 0 2 [some (.ref a0), some (.int 0), none, none, none] [] σ Q) : q_At G X_Tw_listen (d + 1) 0 0 0 [some (.ref a0), none, none, none, none] [] σ Q := by
  refine q_iconst (v := 0) o_Tw_listen_0 (by decide) ?_
  refine q2_istn (ls' := [some (.ref a0), some (.int 0), none, none, none]) o_Tw_listen_1 (Nat.le_of_ble_eq_true rfl) rfl ?_
  exact h

set_option maxRecDepth 20000 in
theorem v_Tw_listen_2 {G : q_G} {d : Nat} {σ : q_S} {Q : Option Value → q_S → Prop} {a0 : Nat} {l1 : Int32} (ha0 : q_isTw a0) (hs : q_Sh σ) (h : (((q_I σ a0 14) ≤ l1 → Q none σ) ∧ (¬ (q_I σ a0 14) ≤ l1 → q_At G X_Tw_listen (d + 1) 0 0 12 [some (.ref a0), some (.int l1), some (.int 0), none, none] [] σ Q))) : q_At G X_Tw_listen (d + 1) 0 0 2 [some (.ref a0), some (.int l1), none, none, none] [] σ Q := by
  refine q_iload_n o_Tw_listen_2 rfl ?_
  refine q_aload_n o_Tw_listen_3 rfl ?_
  refine q2_getI hs o_Tw_listen_4 f_Tw_60 (kd_Tw_0 ha0) ?_
  refine q_icmp_ge o_Tw_listen_7 (fun c1 => ?_) (fun c1 => ?_)
  · have h2 := h.1 c1
    exact q_vre o_Tw_listen_86 rfl h2
  · have h3 := h.2 c1
    refine q_iconst (v := 0) o_Tw_listen_10 (by decide) ?_
    refine q2_istn (ls' := [some (.ref a0), some (.int l1), some (.int 0), none, none]) o_Tw_listen_11 (Nat.le_of_ble_eq_true rfl) rfl ?_
    exact h3

set_option maxRecDepth 20000 in
theorem v_Tw_listen_12 {G : q_G} {d : Nat} {σ : q_S} {Q : Option Value → q_S → Prop} {a0 : Nat} {l1 : Int32} {l2 : Int32} (ha0 : q_isTw a0) (hs : q_Sh σ) (h : (((q_I σ a0 14) ≤ l2 → q_At G X_Tw_listen (d + 1) 0 0 2 [some (.ref a0), some (.int (l1 + 1)), none, none, none] [] σ Q) ∧ (¬ (q_I σ a0 14) ≤ l2 → q_At G X_Tw_listen (d + 1) 0 0 22 [some (.ref a0), some (.int l1), some (.int l2), some (.int 1), none] [] σ Q))) : q_At G X_Tw_listen (d + 1) 0 0 12 [some (.ref a0), some (.int l1), some (.int l2), none, none] [] σ Q := by
  refine q_iload_n o_Tw_listen_12 rfl ?_
  refine q_aload_n o_Tw_listen_13 rfl ?_
  refine q2_getI hs o_Tw_listen_14 f_Tw_60 (kd_Tw_0 ha0) ?_
  refine q_icmp_ge o_Tw_listen_17 (fun c1 => ?_) (fun c1 => ?_)
  · have h2 := h.1 c1
    refine q2_inc (v := (l1 + 1)) (ls' := [some (.ref a0), some (.int (l1 + 1)), some (.int l2), none, none]) o_Tw_listen_80 rfl rfl (Nat.le_of_ble_eq_true rfl) rfl ?_
    refine q_goto o_Tw_listen_83 ?_
    exact q_weak (ls' := [some (.ref a0), some (.int (l1 + 1)), none, none, none]) (And.intro rfl (And.intro rfl trivial)) h2
  · have h3 := h.2 c1
    refine q_iconst (v := 1) o_Tw_listen_20 (by decide) ?_
    refine q2_istn (ls' := [some (.ref a0), some (.int l1), some (.int l2), some (.int 1), none]) o_Tw_listen_21 (Nat.le_of_ble_eq_true rfl) rfl ?_
    exact h3

set_option maxRecDepth 20000 in
theorem v_Tw_listen_22 {G : q_G} {d : Nat} {σ : q_S} {Q : Option Value → q_S → Prop} {a0 : Nat} {l1 : Int32} {l2 : Int32} {l3 : Int32} (ha0 : q_isTw a0) (hs : q_Sh σ) (h : ((9 < l3 → q_At G X_Tw_listen (d + 1) 0 0 12 [some (.ref a0), some (.int l1), some (.int (l2 + 1)), none, none] [] σ Q) ∧ (¬ 9 < l3 → q_Call G d 0 0 X_Tw_loudness [.ref a0, .int l2] σ (q_ri (fun x7 σ5 => q_Call G d 0 0 X_Tw_hearing [.ref a0, .int l1] σ5 (q_ri (fun x11 σ9 => q_Call G d 0 0 X_La_valueOf [.ref (a0 + 13), .int 0, .int x7, .int x11, .int l3] σ9 (q_ri (fun x15 σ13 => q_Call G d 0 0 X_Tw_heardPlace [.int l1, .int l2, .int l3] σ13 (q_ri (fun x19 σ17 => q_Call G d 0 0 X_W_within [.int 0, .int x15, .int 99] σ17 (q_ri (fun x23 σ21 => (∃ k25, x19 = nI k25 ∧ k25 < 360 ∧ q_At G X_Tw_listen (d + 1) 0 0 22 [some (.ref a0), some (.int l1), some (.int l2), some (.int (l3 + 1)), none] [] (q_setI σ21 (a0 + 12) k25 x23) Q)))))))))))))) : q_At G X_Tw_listen (d + 1) 0 0 22 [some (.ref a0), some (.int l1), some (.int l2), some (.int l3), none] [] σ Q := by
  refine q_iload_n o_Tw_listen_22 rfl ?_
  refine q_bipush (v := 9) o_Tw_listen_23 (by decide) ?_
  refine q_icmp_gt o_Tw_listen_25 (fun c1 => ?_) (fun c1 => ?_)
  · have h2 := h.1 c1
    refine q2_inc (v := (l2 + 1)) (ls' := [some (.ref a0), some (.int l1), some (.int (l2 + 1)), some (.int l3), none]) o_Tw_listen_74 rfl rfl (Nat.le_of_ble_eq_true rfl) rfl ?_
    refine q_goto o_Tw_listen_77 ?_
    exact q_weak (ls' := [some (.ref a0), some (.int l1), some (.int (l2 + 1)), none, none]) (And.intro rfl (And.intro rfl (And.intro rfl trivial))) h2
  · have h3 := h.2 c1
    refine q_aload_n o_Tw_listen_28 rfl ?_
    refine q2_getR hs o_Tw_listen_29 f_Tw_52 (kd_Tw_0 ha0) (fz_Tw_12 hs ha0) ?_
    refine q_iconst (v := 0) o_Tw_listen_32 (by decide) ?_
    refine q_aload_n o_Tw_listen_33 rfl ?_
    refine q_iload_n o_Tw_listen_34 rfl ?_
    refine q2_callVi _ (a := a0) (As := [.int l2]) (st := [.int 0, .ref (a0 + 13)]) hs o_Tw_listen_35 k_Tw_75 (kd_Tw_0 ha0) rfl (Nat.le_of_ble_eq_true rfl) h3 (fun x7 σ5 hs6 h4 => ?_)
    refine q_aload_n o_Tw_listen_38 rfl ?_
    refine q_iload_n o_Tw_listen_39 rfl ?_
    refine q2_callVi _ (a := a0) (As := [.int l1]) (st := [.int x7, .int 0, .ref (a0 + 13)]) hs6 o_Tw_listen_40 k_Tw_79 (kd_Tw_0 ha0) rfl (Nat.le_of_ble_eq_true rfl) h4 (fun x11 σ9 hs10 h8 => ?_)
    refine q_iload_n o_Tw_listen_43 rfl ?_
    refine q2_callVi _ (a := a0 + 13) (As := [.int 0, .int x7, .int x11, .int l3]) (st := []) hs10 o_Tw_listen_44 k_Tw_82 (kd_La_0 (isLa_of_Tw ha0)) rfl (Nat.le_of_ble_eq_true rfl) h8 (fun x15 σ13 hs14 h12 => ?_)
    refine q2_ist (ls' := [some (.ref a0), some (.int l1), some (.int l2), some (.int l3), some (.int x15)]) o_Tw_listen_47 (Nat.le_of_ble_eq_true rfl) rfl ?_
    refine q_aload_n o_Tw_listen_49 rfl ?_
    refine q2_getR hs14 o_Tw_listen_50 f_Tw_46 (kd_Tw_0 ha0) (fz_Tw_11 hs14 ha0) ?_
    refine q_iload_n o_Tw_listen_53 rfl ?_
    refine q_iload_n o_Tw_listen_54 rfl ?_
    refine q_iload_n o_Tw_listen_55 rfl ?_
    refine q2_callSi _ (As := [.int l1, .int l2, .int l3]) (st := [.ref (a0 + 12)]) hs14 o_Tw_listen_56 k_Tw_86 rfl (Nat.le_of_ble_eq_true rfl) h12 (fun x19 σ17 hs18 h16 => ?_)
    refine q_iconst (v := 0) o_Tw_listen_59 (by decide) ?_
    refine q_iload o_Tw_listen_60 rfl ?_
    refine q_bipush (v := 99) o_Tw_listen_62 (by decide) ?_
    refine q2_callSi _ (As := [.int 0, .int x15, .int 99]) (st := [.int x19, .ref (a0 + 12)]) hs18 o_Tw_listen_64 k_Tw_90 rfl (Nat.le_of_ble_eq_true rfl) h16 (fun x23 σ21 hs22 h20 => ?_)
    obtain ⟨k25, eh24, bh24, h24⟩ := h20
    refine q2_iast hs22 o_Tw_listen_67 (kd_Tw_12 ha0) eh24 bh24 (by decide) ?_
    refine q2_inc (v := (l3 + 1)) (ls' := [some (.ref a0), some (.int l1), some (.int l2), some (.int (l3 + 1)), some (.int x15)]) o_Tw_listen_68 rfl rfl (Nat.le_of_ble_eq_true rfl) rfl ?_
    refine q_goto o_Tw_listen_71 ?_
    exact q_weak (ls' := [some (.ref a0), some (.int l1), some (.int l2), some (.int (l3 + 1)), none]) (And.intro rfl (And.intro rfl (And.intro rfl (And.intro rfl trivial)))) h24

set_option maxRecDepth 20000 in
theorem v_Tw_heardPlace_0 {G : q_G} {d : Nat} {σ : q_S} {Q : Option Value → q_S → Prop} {p0 : Int32} {p1 : Int32} {p2 : Int32}  (hs : q_Sh σ) (h : Q (some (.int ((((p0 * 6) + p1) * 10) + p2))) σ) : q_At G X_Tw_heardPlace d 0 0 0 [some (.int p0), some (.int p1), some (.int p2)] [] σ Q := by
  refine q_iload_n o_Tw_heardPlace_0 rfl ?_
  refine q_bipush (v := 6) o_Tw_heardPlace_1 (by decide) ?_
  refine q_imul o_Tw_heardPlace_3 ?_
  refine q_iload_n o_Tw_heardPlace_4 rfl ?_
  refine q_iadd o_Tw_heardPlace_5 ?_
  refine q_bipush (v := 10) o_Tw_heardPlace_6 (by decide) ?_
  refine q_imul o_Tw_heardPlace_8 ?_
  refine q_iload_n o_Tw_heardPlace_9 rfl ?_
  refine q_iadd o_Tw_heardPlace_10 ?_
  exact q_ire o_Tw_heardPlace_11 rfl h

set_option maxRecDepth 20000 in
theorem v_Tw_housePairs_0 {G : q_G} {d : Nat} {σ : q_S} {Q : Option Value → q_S → Prop} {a0 : Nat} (ha0 : q_isTw a0) (hs : q_Sh σ) (h : Q (some (.int (((q_I σ a0 13) * ((q_I σ a0 13) - 1)) / 2))) σ) : q_At G X_Tw_housePairs d 0 0 0 [some (.ref a0)] [] σ Q := by
  refine q_aload_n o_Tw_housePairs_0 rfl ?_
  refine q2_getI hs o_Tw_housePairs_1 f_Tw_56 (kd_Tw_0 ha0) ?_
  refine q_aload_n o_Tw_housePairs_4 rfl ?_
  refine q2_getI hs o_Tw_housePairs_5 f_Tw_56 (kd_Tw_0 ha0) ?_
  refine q_iconst (v := 1) o_Tw_housePairs_8 (by decide) ?_
  refine q_isub o_Tw_housePairs_9 ?_
  refine q_imul o_Tw_housePairs_10 ?_
  refine q_iconst (v := 2) o_Tw_housePairs_11 (by decide) ?_
  refine q_idiv o_Tw_housePairs_12 (by decide) ?_
  exact q_ire o_Tw_housePairs_13 rfl h

set_option maxRecDepth 20000 in
theorem v_Tw_familyIn_0 {G : q_G} {d : Nat} {σ : q_S} {Q : Option Value → q_S → Prop} {a0 : Nat} {p0 : Nat} {p1 : Int32} (ha0 : q_isTw a0) (hp0 : q_kd p0 = (1, 6)) (hs : q_Sh σ) (h : q_At G X_Tw_familyIn d 0 0 2 [some (.ref a0), some (.ref p0), some (.int p1), some (.int 0)] [] σ Q) : q_At G X_Tw_familyIn d 0 0 0 [some (.ref a0), some (.ref p0), some (.int p1), none] [] σ Q := by
  refine q_iconst (v := 0) o_Tw_familyIn_0 (by decide) ?_
  refine q2_istn (ls' := [some (.ref a0), some (.ref p0), some (.int p1), some (.int 0)]) o_Tw_familyIn_1 (Nat.le_of_ble_eq_true rfl) rfl ?_
  exact h

set_option maxRecDepth 20000 in
theorem v_Tw_familyIn_2 {G : q_G} {d : Nat} {σ : q_S} {Q : Option Value → q_S → Prop} {a0 : Nat} {p0 : Nat} {p1 : Int32} {l3 : Int32} (ha0 : q_isTw a0) (hp0 : q_kd p0 = (1, 6)) (hs : q_Sh σ) (h : (((q_I σ a0 14) ≤ l3 → Q (some (.int (-1))) σ) ∧ (¬ (q_I σ a0 14) ≤ l3 → (∃ k5, l3 = nI k5 ∧ k5 < 6 ∧ ((¬ (q_I σ p0 k5) = p1 → q_At G X_Tw_familyIn d 0 0 2 [some (.ref a0), some (.ref p0), some (.int p1), some (.int (l3 + 1))] [] σ Q) ∧ ((q_I σ p0 k5) = p1 → Q (some (.int l3)) σ)))))) : q_At G X_Tw_familyIn d 0 0 2 [some (.ref a0), some (.ref p0), some (.int p1), some (.int l3)] [] σ Q := by
  refine q_iload_n o_Tw_familyIn_2 rfl ?_
  refine q_aload_n o_Tw_familyIn_3 rfl ?_
  refine q2_getI hs o_Tw_familyIn_4 f_Tw_60 (kd_Tw_0 ha0) ?_
  refine q_icmp_ge o_Tw_familyIn_7 (fun c1 => ?_) (fun c1 => ?_)
  · have h2 := h.1 c1
    refine q_iconst (v := (-1)) o_Tw_familyIn_25 (by decide) ?_
    exact q_ire o_Tw_familyIn_26 rfl h2
  · have h3 := h.2 c1
    refine q_aload_n o_Tw_familyIn_10 rfl ?_
    refine q_iload_n o_Tw_familyIn_11 rfl ?_
    obtain ⟨k5, eh4, bh4, h4⟩ := h3
    refine q2_iald hs o_Tw_familyIn_12 hp0 eh4 bh4 (by decide) ?_
    refine q_iload_n o_Tw_familyIn_13 rfl ?_
    refine q_icmp_ne o_Tw_familyIn_14 (fun c6 => ?_) (fun c6 => ?_)
    · have h7 := h4.1 c6
      refine q2_inc (v := (l3 + 1)) (ls' := [some (.ref a0), some (.ref p0), some (.int p1), some (.int (l3 + 1))]) o_Tw_familyIn_19 rfl rfl (Nat.le_of_ble_eq_true rfl) rfl ?_
      refine q_goto o_Tw_familyIn_22 ?_
      exact h7
    · have h8 := h4.2 c6
      refine q_iload_n o_Tw_familyIn_17 rfl ?_
      exact q_ire o_Tw_familyIn_18 rfl h8

set_option maxRecDepth 20000 in
theorem v_Tw_thickBetween_0 {G : q_G} {d : Nat} {σ : q_S} {Q : Option Value → q_S → Prop} {a0 : Nat} {p0 : Nat} {p1 : Int32} {p2 : Int32} (ha0 : q_isTw a0) (hp0 : q_kd p0 = (1, 6)) (hs : q_Sh σ) (h : (∃ k2, p1 = nI k2 ∧ k2 < 6 ∧ (∃ k4, p2 = nI k4 ∧ k4 < 6 ∧ (∃ k6, (((q_I σ p0 k2) * 6) + (q_I σ p0 k4)) = nI k6 ∧ k6 < 36 ∧ Q (some (.int (q_I σ (a0 + 7) k6))) σ)))) : q_At G X_Tw_thickBetween d 0 0 0 [some (.ref a0), some (.ref p0), some (.int p1), some (.int p2)] [] σ Q := by
  refine q_aload_n o_Tw_thickBetween_0 rfl ?_
  refine q2_getR hs o_Tw_thickBetween_1 f_Tw_31 (kd_Tw_0 ha0) (fz_Tw_6 hs ha0) ?_
  refine q_aload_n o_Tw_thickBetween_4 rfl ?_
  refine q_iload_n o_Tw_thickBetween_5 rfl ?_
  obtain ⟨k2, eh1, bh1, h1⟩ := h
  refine q2_iald hs o_Tw_thickBetween_6 hp0 eh1 bh1 (by decide) ?_
  refine q_bipush (v := 6) o_Tw_thickBetween_7 (by decide) ?_
  refine q_imul o_Tw_thickBetween_9 ?_
  refine q_aload_n o_Tw_thickBetween_10 rfl ?_
  refine q_iload_n o_Tw_thickBetween_11 rfl ?_
  obtain ⟨k4, eh3, bh3, h3⟩ := h1
  refine q2_iald hs o_Tw_thickBetween_12 hp0 eh3 bh3 (by decide) ?_
  refine q_iadd o_Tw_thickBetween_13 ?_
  obtain ⟨k6, eh5, bh5, h5⟩ := h3
  refine q2_iald hs o_Tw_thickBetween_14 (kd_Tw_7 ha0) eh5 bh5 (by decide) ?_
  exact q_ire o_Tw_thickBetween_15 rfl h5

set_option maxRecDepth 20000 in
theorem v_Tw_areNeighbours_0 {G : q_G} {d : Nat} {σ : q_S} {Q : Option Value → q_S → Prop} {a0 : Nat} {p0 : Nat} {p1 : Int32} {p2 : Int32} (ha0 : q_isTw a0) (hp0 : q_kd p0 = (1, 6)) (hs : q_Sh σ) (h : q_Call G d 0 0 X_Tw_thickBetween [.ref a0, .ref p0, .int p1, .int p2] σ (q_ri (fun x4 σ2 => (narrow .boolean (.int (if x4 = 0 then (0 : Int32) else (1 : Int32))) = .int (if x4 = 0 then (0 : Int32) else (1 : Int32)) ∧ Q (some (.int (if x4 = 0 then (0 : Int32) else (1 : Int32)))) σ2)))) : q_At G X_Tw_areNeighbours (d + 1) 0 0 0 [some (.ref a0), some (.ref p0), some (.int p1), some (.int p2)] [] σ Q := by
  refine q_aload_n o_Tw_areNeighbours_0 rfl ?_
  refine q_aload_n o_Tw_areNeighbours_1 rfl ?_
  refine q_iload_n o_Tw_areNeighbours_2 rfl ?_
  refine q_iload_n o_Tw_areNeighbours_3 rfl ?_
  refine q2_callVi _ (a := a0) (As := [.ref p0, .int p1, .int p2]) (st := []) hs o_Tw_areNeighbours_4 k_Tw_93 (kd_Tw_0 ha0) rfl (Nat.le_of_ble_eq_true rfl) h (fun x4 σ2 hs3 h1 => ?_)
  have hJ : ∀ vJ : Int32, vJ = (if x4 = 0 then (0 : Int32) else (1 : Int32)) → q_At G X_Tw_areNeighbours (d + 1) 0 0 15 [some (.ref a0), some (.ref p0), some (.int p1), some (.int p2)] [.int vJ] σ2 Q := by
    intro vJ eJ
    rw [eJ]
    clear eJ vJ
    exact q_zre o_Tw_areNeighbours_15 rfl h1.1 h1.2
  refine q_if_eq o_Tw_areNeighbours_7 (fun c5 => ?_) (fun c5 => ?_)
  · refine q_iconst (v := 0) o_Tw_areNeighbours_14 (by decide) ?_
    exact hJ _ (Eq.symm (if_pos c5))
  · refine q_iconst (v := 1) o_Tw_areNeighbours_10 (by decide) ?_
    refine q_goto o_Tw_areNeighbours_11 ?_
    exact hJ _ (Eq.symm (if_neg c5))

set_option maxRecDepth 20000 in
theorem v_Tw_neighbourBits_0 {G : q_G} {d : Nat} {σ : q_S} {Q : Option Value → q_S → Prop} {a0 : Nat} {p0 : Nat} {p1 : Int32} (ha0 : q_isTw a0) (hp0 : q_kd p0 = (1, 6)) (hs : q_Sh σ) (h : q_At G X_Tw_neighbourBits (d + 1) 0 0 5 [some (.ref a0), some (.ref p0), some (.int p1), some (.int 0), some (.int 0)] [] σ Q) : q_At G X_Tw_neighbourBits (d + 1) 0 0 0 [some (.ref a0), some (.ref p0), some (.int p1), none, none] [] σ Q := by
  refine q_iconst (v := 0) o_Tw_neighbourBits_0 (by decide) ?_
  refine q2_istn (ls' := [some (.ref a0), some (.ref p0), some (.int p1), some (.int 0), none]) o_Tw_neighbourBits_1 (Nat.le_of_ble_eq_true rfl) rfl ?_
  refine q_iconst (v := 0) o_Tw_neighbourBits_2 (by decide) ?_
  refine q2_ist (ls' := [some (.ref a0), some (.ref p0), some (.int p1), some (.int 0), some (.int 0)]) o_Tw_neighbourBits_3 (Nat.le_of_ble_eq_true rfl) rfl ?_
  exact h

set_option maxRecDepth 20000 in
theorem v_Tw_neighbourBits_5 {G : q_G} {d : Nat} {σ : q_S} {Q : Option Value → q_S → Prop} {a0 : Nat} {p0 : Nat} {p1 : Int32} {l3 : Int32} {l4 : Int32} (ha0 : q_isTw a0) (hs : q_Sh σ) (h : (((q_I σ a0 14) ≤ l4 → Q (some (.int l3)) σ) ∧ (¬ (q_I σ a0 14) ≤ l4 → q_Call G d 0 0 X_Tw_areNeighbours [.ref a0, .ref p0, .int p1, .int l4] σ (q_ri (fun x7 σ5 => ((x7 = 0 → q_At G X_Tw_neighbourBits (d + 1) 0 0 5 [some (.ref a0), some (.ref p0), some (.int p1), some (.int l3), some (.int (l4 + 1))] [] σ5 Q) ∧ (¬ x7 = 0 → q_At G X_Tw_neighbourBits (d + 1) 0 0 5 [some (.ref a0), some (.ref p0), some (.int p1), some (.int (l3 ||| ((1 : Int32) <<< (l4 &&& 31)))), some (.int (l4 + 1))] [] σ5 Q))))))) : q_At G X_Tw_neighbourBits (d + 1) 0 0 5 [some (.ref a0), some (.ref p0), some (.int p1), some (.int l3), some (.int l4)] [] σ Q := by
  refine q_iload o_Tw_neighbourBits_5 rfl ?_
  refine q_aload_n o_Tw_neighbourBits_7 rfl ?_
  refine q2_getI hs o_Tw_neighbourBits_8 f_Tw_60 (kd_Tw_0 ha0) ?_
  refine q_icmp_ge o_Tw_neighbourBits_11 (fun c1 => ?_) (fun c1 => ?_)
  · have h2 := h.1 c1
    refine q_iload_n o_Tw_neighbourBits_38 rfl ?_
    exact q_ire o_Tw_neighbourBits_39 rfl h2
  · have h3 := h.2 c1
    refine q_aload_n o_Tw_neighbourBits_14 rfl ?_
    refine q_aload_n o_Tw_neighbourBits_15 rfl ?_
    refine q_iload_n o_Tw_neighbourBits_16 rfl ?_
    refine q_iload o_Tw_neighbourBits_17 rfl ?_
    refine q2_callVi _ (a := a0) (As := [.ref p0, .int p1, .int l4]) (st := []) hs o_Tw_neighbourBits_19 k_Tw_97 (kd_Tw_0 ha0) rfl (Nat.le_of_ble_eq_true rfl) h3 (fun x7 σ5 hs6 h4 => ?_)
    refine q_if_eq o_Tw_neighbourBits_22 (fun c8 => ?_) (fun c8 => ?_)
    · have h9 := h4.1 c8
      refine q2_inc (v := (l4 + 1)) (ls' := [some (.ref a0), some (.ref p0), some (.int p1), some (.int l3), some (.int (l4 + 1))]) o_Tw_neighbourBits_32 rfl rfl (Nat.le_of_ble_eq_true rfl) rfl ?_
      refine q_goto o_Tw_neighbourBits_35 ?_
      exact h9
    · have h10 := h4.2 c8
      refine q_iload_n o_Tw_neighbourBits_25 rfl ?_
      refine q_iconst (v := 1) o_Tw_neighbourBits_26 (by decide) ?_
      refine q_iload o_Tw_neighbourBits_27 rfl ?_
      refine q_ishl o_Tw_neighbourBits_29 ?_
      refine q_ior o_Tw_neighbourBits_30 ?_
      refine q2_istn (ls' := [some (.ref a0), some (.ref p0), some (.int p1), some (.int (l3 ||| ((1 : Int32) <<< (l4 &&& 31)))), some (.int l4)]) o_Tw_neighbourBits_31 (Nat.le_of_ble_eq_true rfl) rfl ?_
      refine q2_inc (v := (l4 + 1)) (ls' := [some (.ref a0), some (.ref p0), some (.int p1), some (.int (l3 ||| ((1 : Int32) <<< (l4 &&& 31)))), some (.int (l4 + 1))]) o_Tw_neighbourBits_32 rfl rfl (Nat.le_of_ble_eq_true rfl) rfl ?_
      refine q_goto o_Tw_neighbourBits_35 ?_
      exact h10

set_option maxRecDepth 20000 in
theorem v_Tw_pairsOf_0 {G : q_G} {d : Nat} {σ : q_S} {Q : Option Value → q_S → Prop} {a0 : Nat} {p0 : Nat} (ha0 : q_isTw a0) (hp0 : q_kd p0 = (1, 6)) (hs : q_Sh σ) (h : q_At G X_Tw_pairsOf (d + 1) 0 0 5 [some (.ref a0), some (.ref p0), some (.long 0), none, some (.int 0), none] [] σ Q) : q_At G X_Tw_pairsOf (d + 1) 0 0 0 [some (.ref a0), some (.ref p0), none, none, none, none] [] σ Q := by
  refine q_lconst (v := 0) o_Tw_pairsOf_0 (by decide) ?_
  refine q2_lstn (ls' := [some (.ref a0), some (.ref p0), some (.long 0), none, none, none]) o_Tw_pairsOf_1 (Nat.le_of_ble_eq_true rfl) rfl ?_
  refine q_iconst (v := 0) o_Tw_pairsOf_2 (by decide) ?_
  refine q2_ist (ls' := [some (.ref a0), some (.ref p0), some (.long 0), none, some (.int 0), none]) o_Tw_pairsOf_3 (Nat.le_of_ble_eq_true rfl) rfl ?_
  exact h

set_option maxRecDepth 20000 in
theorem v_Tw_pairsOf_5 {G : q_G} {d : Nat} {σ : q_S} {Q : Option Value → q_S → Prop} {a0 : Nat} {p0 : Nat} {l2 : Int64} {l4 : Int32} (ha0 : q_isTw a0) (hs : q_Sh σ) (h : (((q_I σ a0 14) ≤ l4 → Q (some (.long l2)) σ) ∧ (¬ (q_I σ a0 14) ≤ l4 → q_At G X_Tw_pairsOf (d + 1) 0 0 20 [some (.ref a0), some (.ref p0), some (.long l2), none, some (.int l4), some (.int (l4 + 1))] [] σ Q))) : q_At G X_Tw_pairsOf (d + 1) 0 0 5 [some (.ref a0), some (.ref p0), some (.long l2), none, some (.int l4), none] [] σ Q := by
  refine q_iload o_Tw_pairsOf_5 rfl ?_
  refine q_aload_n o_Tw_pairsOf_7 rfl ?_
  refine q2_getI hs o_Tw_pairsOf_8 f_Tw_60 (kd_Tw_0 ha0) ?_
  refine q_icmp_ge o_Tw_pairsOf_11 (fun c1 => ?_) (fun c1 => ?_)
  · have h2 := h.1 c1
    refine q_lload_n o_Tw_pairsOf_63 rfl ?_
    exact q_lre o_Tw_pairsOf_64 rfl h2
  · have h3 := h.2 c1
    refine q_iload o_Tw_pairsOf_14 rfl ?_
    refine q_iconst (v := 1) o_Tw_pairsOf_16 (by decide) ?_
    refine q_iadd o_Tw_pairsOf_17 ?_
    refine q2_ist (ls' := [some (.ref a0), some (.ref p0), some (.long l2), none, some (.int l4), some (.int (l4 + 1))]) o_Tw_pairsOf_18 (Nat.le_of_ble_eq_true rfl) rfl ?_
    exact h3

set_option maxRecDepth 20000 in
theorem v_Tw_pairsOf_20 {G : q_G} {d : Nat} {σ : q_S} {Q : Option Value → q_S → Prop} {a0 : Nat} {p0 : Nat} {l2 : Int64} {l4 : Int32} {l5 : Int32} (ha0 : q_isTw a0) (hs : q_Sh σ) (h : (((q_I σ a0 14) ≤ l5 → q_At G X_Tw_pairsOf (d + 1) 0 0 5 [some (.ref a0), some (.ref p0), some (.long l2), none, some (.int (l4 + 1)), none] [] σ Q) ∧ (¬ (q_I σ a0 14) ≤ l5 → q_Call G d 0 0 X_Tw_areNeighbours [.ref a0, .ref p0, .int l4, .int l5] σ (q_ri (fun x7 σ5 => ((x7 = 0 → q_At G X_Tw_pairsOf (d + 1) 0 0 20 [some (.ref a0), some (.ref p0), some (.long l2), none, some (.int l4), some (.int (l5 + 1))] [] σ5 Q) ∧ (¬ x7 = 0 → q_Call G d 0 0 X_W_pairBit [.int l4, .int l5] σ5 (q_rl (fun x14 σ12 => q_At G X_Tw_pairsOf (d + 1) 0 0 20 [some (.ref a0), some (.ref p0), some (.long (l2 ||| x14)), none, some (.int l4), some (.int (l5 + 1))] [] σ12 Q))))))))) : q_At G X_Tw_pairsOf (d + 1) 0 0 20 [some (.ref a0), some (.ref p0), some (.long l2), none, some (.int l4), some (.int l5)] [] σ Q := by
  refine q_iload o_Tw_pairsOf_20 rfl ?_
  refine q_aload_n o_Tw_pairsOf_22 rfl ?_
  refine q2_getI hs o_Tw_pairsOf_23 f_Tw_60 (kd_Tw_0 ha0) ?_
  refine q_icmp_ge o_Tw_pairsOf_26 (fun c1 => ?_) (fun c1 => ?_)
  · have h2 := h.1 c1
    refine q2_inc (v := (l4 + 1)) (ls' := [some (.ref a0), some (.ref p0), some (.long l2), none, some (.int (l4 + 1)), some (.int l5)]) o_Tw_pairsOf_57 rfl rfl (Nat.le_of_ble_eq_true rfl) rfl ?_
    refine q_goto o_Tw_pairsOf_60 ?_
    exact q_weak (ls' := [some (.ref a0), some (.ref p0), some (.long l2), none, some (.int (l4 + 1)), none]) (And.intro rfl (And.intro rfl (And.intro rfl (And.intro rfl trivial)))) h2
  · have h3 := h.2 c1
    refine q_aload_n o_Tw_pairsOf_29 rfl ?_
    refine q_aload_n o_Tw_pairsOf_30 rfl ?_
    refine q_iload o_Tw_pairsOf_31 rfl ?_
    refine q_iload o_Tw_pairsOf_33 rfl ?_
    refine q2_callVi _ (a := a0) (As := [.ref p0, .int l4, .int l5]) (st := []) hs o_Tw_pairsOf_35 k_Tw_97 (kd_Tw_0 ha0) rfl (Nat.le_of_ble_eq_true rfl) h3 (fun x7 σ5 hs6 h4 => ?_)
    refine q_if_eq o_Tw_pairsOf_38 (fun c8 => ?_) (fun c8 => ?_)
    · have h9 := h4.1 c8
      refine q2_inc (v := (l5 + 1)) (ls' := [some (.ref a0), some (.ref p0), some (.long l2), none, some (.int l4), some (.int (l5 + 1))]) o_Tw_pairsOf_51 rfl rfl (Nat.le_of_ble_eq_true rfl) rfl ?_
      refine q_goto o_Tw_pairsOf_54 ?_
      exact h9
    · have h10 := h4.2 c8
      refine q_lload_n o_Tw_pairsOf_41 rfl ?_
      refine q_iload o_Tw_pairsOf_42 rfl ?_
      refine q_iload o_Tw_pairsOf_44 rfl ?_
      refine q2_callSl _ (As := [.int l4, .int l5]) (st := [.long l2]) hs6 o_Tw_pairsOf_46 k_Tw_101 rfl (Nat.le_of_ble_eq_true rfl) h10 (fun x14 σ12 hs13 h11 => ?_)
      refine q_lor o_Tw_pairsOf_49 ?_
      refine q2_lstn (ls' := [some (.ref a0), some (.ref p0), some (.long (l2 ||| x14)), none, some (.int l4), some (.int l5)]) o_Tw_pairsOf_50 (Nat.le_of_ble_eq_true rfl) rfl ?_
      refine q2_inc (v := (l5 + 1)) (ls' := [some (.ref a0), some (.ref p0), some (.long (l2 ||| x14)), none, some (.int l4), some (.int (l5 + 1))]) o_Tw_pairsOf_51 rfl rfl (Nat.le_of_ble_eq_true rfl) rfl ?_
      refine q_goto o_Tw_pairsOf_54 ?_
      exact h11

set_option maxRecDepth 20000 in
theorem v_Tw_brokenBy_0 {G : q_G} {d : Nat} {σ : q_S} {Q : Option Value → q_S → Prop} {a0 : Nat} {p0 : Int64} (ha0 : q_isTw a0) (hs : q_Sh σ) (h : q_At G X_Tw_brokenBy d 0 0 5 [some (.ref a0), some (.long p0), none, some (.int 0), some (.int 0)] [] σ Q) : q_At G X_Tw_brokenBy d 0 0 0 [some (.ref a0), some (.long p0), none, none, none] [] σ Q := by
  refine q_iconst (v := 0) o_Tw_brokenBy_0 (by decide) ?_
  refine q2_istn (ls' := [some (.ref a0), some (.long p0), none, some (.int 0), none]) o_Tw_brokenBy_1 (Nat.le_of_ble_eq_true rfl) rfl ?_
  refine q_iconst (v := 0) o_Tw_brokenBy_2 (by decide) ?_
  refine q2_ist (ls' := [some (.ref a0), some (.long p0), none, some (.int 0), some (.int 0)]) o_Tw_brokenBy_3 (Nat.le_of_ble_eq_true rfl) rfl ?_
  exact h

set_option maxRecDepth 20000 in
theorem v_Tw_brokenBy_5 {G : q_G} {d : Nat} {σ : q_S} {Q : Option Value → q_S → Prop} {a0 : Nat} {p0 : Int64} {l3 : Int32} {l4 : Int32} (ha0 : q_isTw a0) (hs : q_Sh σ) (h : (((q_I σ a0 16) ≤ l4 → q_At G X_Tw_brokenBy d 0 0 44 [some (.ref a0), some (.long p0), none, some (.int l3), some (.int 4)] [] σ Q) ∧ (¬ (q_I σ a0 16) ≤ l4 → (∃ k5, l4 = nI k5 ∧ k5 < 8 ∧ (((lg_cmp (p0 &&& (q_L σ (a0 + 11) k5)) 0) = 0 → q_At G X_Tw_brokenBy d 0 0 5 [some (.ref a0), some (.long p0), none, some (.int l3), some (.int (l4 + 1))] [] σ Q) ∧ (¬ (lg_cmp (p0 &&& (q_L σ (a0 + 11) k5)) 0) = 0 → q_At G X_Tw_brokenBy d 0 0 5 [some (.ref a0), some (.long p0), none, some (.int (l3 ||| ((1 : Int32) <<< (l4 &&& 31)))), some (.int (l4 + 1))] [] σ Q)))))) : q_At G X_Tw_brokenBy d 0 0 5 [some (.ref a0), some (.long p0), none, some (.int l3), some (.int l4)] [] σ Q := by
  refine q_iload o_Tw_brokenBy_5 rfl ?_
  refine q_aload_n o_Tw_brokenBy_7 rfl ?_
  refine q2_getI hs o_Tw_brokenBy_8 f_Tw_66 (kd_Tw_0 ha0) ?_
  refine q_icmp_ge o_Tw_brokenBy_11 (fun c1 => ?_) (fun c1 => ?_)
  · have h2 := h.1 c1
    refine q_iconst (v := 4) o_Tw_brokenBy_41 (by decide) ?_
    refine q2_ist (ls' := [some (.ref a0), some (.long p0), none, some (.int l3), some (.int 4)]) o_Tw_brokenBy_42 (Nat.le_of_ble_eq_true rfl) rfl ?_
    exact h2
  · have h3 := h.2 c1
    refine q_lload_n o_Tw_brokenBy_14 rfl ?_
    refine q_aload_n o_Tw_brokenBy_15 rfl ?_
    refine q2_getR hs o_Tw_brokenBy_16 f_Tw_43 (kd_Tw_0 ha0) (fz_Tw_10 hs ha0) ?_
    refine q_iload o_Tw_brokenBy_19 rfl ?_
    obtain ⟨k5, eh4, bh4, h4⟩ := h3
    refine q2_lald hs o_Tw_brokenBy_21 (kd_Tw_11 ha0) eh4 bh4 (by decide) ?_
    refine q_land o_Tw_brokenBy_22 ?_
    refine q_lconst (v := 0) o_Tw_brokenBy_23 (by decide) ?_
    refine q_lcmp o_Tw_brokenBy_24 ?_
    refine q_if_eq o_Tw_brokenBy_25 (fun c6 => ?_) (fun c6 => ?_)
    · have h7 := h4.1 c6
      refine q2_inc (v := (l4 + 1)) (ls' := [some (.ref a0), some (.long p0), none, some (.int l3), some (.int (l4 + 1))]) o_Tw_brokenBy_35 rfl rfl (Nat.le_of_ble_eq_true rfl) rfl ?_
      refine q_goto o_Tw_brokenBy_38 ?_
      exact h7
    · have h8 := h4.2 c6
      refine q_iload_n o_Tw_brokenBy_28 rfl ?_
      refine q_iconst (v := 1) o_Tw_brokenBy_29 (by decide) ?_
      refine q_iload o_Tw_brokenBy_30 rfl ?_
      refine q_ishl o_Tw_brokenBy_32 ?_
      refine q_ior o_Tw_brokenBy_33 ?_
      refine q2_istn (ls' := [some (.ref a0), some (.long p0), none, some (.int (l3 ||| ((1 : Int32) <<< (l4 &&& 31)))), some (.int l4)]) o_Tw_brokenBy_34 (Nat.le_of_ble_eq_true rfl) rfl ?_
      refine q2_inc (v := (l4 + 1)) (ls' := [some (.ref a0), some (.long p0), none, some (.int (l3 ||| ((1 : Int32) <<< (l4 &&& 31)))), some (.int (l4 + 1))]) o_Tw_brokenBy_35 rfl rfl (Nat.le_of_ble_eq_true rfl) rfl ?_
      refine q_goto o_Tw_brokenBy_38 ?_
      exact h8

set_option maxRecDepth 20000 in
theorem v_Tw_brokenBy_44 {G : q_G} {d : Nat} {σ : q_S} {Q : Option Value → q_S → Prop} {a0 : Nat} {p0 : Int64} {l3 : Int32} {l4 : Int32} (ha0 : q_isTw a0) (hs : q_Sh σ) (h : (((4 + (q_I σ a0 17)) ≤ l4 → Q (some (.int l3)) σ) ∧ (¬ (4 + (q_I σ a0 17)) ≤ l4 → (∃ k5, l4 = nI k5 ∧ k5 < 8 ∧ ((¬ (lg_cmp (p0 &&& (q_L σ (a0 + 11) k5)) 0) = 0 → q_At G X_Tw_brokenBy d 0 0 44 [some (.ref a0), some (.long p0), none, some (.int l3), some (.int (l4 + 1))] [] σ Q) ∧ ((lg_cmp (p0 &&& (q_L σ (a0 + 11) k5)) 0) = 0 → q_At G X_Tw_brokenBy d 0 0 44 [some (.ref a0), some (.long p0), none, some (.int (l3 ||| ((1 : Int32) <<< (l4 &&& 31)))), some (.int (l4 + 1))] [] σ Q)))))) : q_At G X_Tw_brokenBy d 0 0 44 [some (.ref a0), some (.long p0), none, some (.int l3), some (.int l4)] [] σ Q := by
  refine q_iload o_Tw_brokenBy_44 rfl ?_
  refine q_iconst (v := 4) o_Tw_brokenBy_46 (by decide) ?_
  refine q_aload_n o_Tw_brokenBy_47 rfl ?_
  refine q2_getI hs o_Tw_brokenBy_48 f_Tw_69 (kd_Tw_0 ha0) ?_
  refine q_iadd o_Tw_brokenBy_51 ?_
  refine q_icmp_ge o_Tw_brokenBy_52 (fun c1 => ?_) (fun c1 => ?_)
  · have h2 := h.1 c1
    refine q_iload_n o_Tw_brokenBy_82 rfl ?_
    exact q_ire o_Tw_brokenBy_83 rfl h2
  · have h3 := h.2 c1
    refine q_lload_n o_Tw_brokenBy_55 rfl ?_
    refine q_aload_n o_Tw_brokenBy_56 rfl ?_
    refine q2_getR hs o_Tw_brokenBy_57 f_Tw_43 (kd_Tw_0 ha0) (fz_Tw_10 hs ha0) ?_
    refine q_iload o_Tw_brokenBy_60 rfl ?_
    obtain ⟨k5, eh4, bh4, h4⟩ := h3
    refine q2_lald hs o_Tw_brokenBy_62 (kd_Tw_11 ha0) eh4 bh4 (by decide) ?_
    refine q_land o_Tw_brokenBy_63 ?_
    refine q_lconst (v := 0) o_Tw_brokenBy_64 (by decide) ?_
    refine q_lcmp o_Tw_brokenBy_65 ?_
    refine q_if_ne o_Tw_brokenBy_66 (fun c6 => ?_) (fun c6 => ?_)
    · have h7 := h4.1 c6
      refine q2_inc (v := (l4 + 1)) (ls' := [some (.ref a0), some (.long p0), none, some (.int l3), some (.int (l4 + 1))]) o_Tw_brokenBy_76 rfl rfl (Nat.le_of_ble_eq_true rfl) rfl ?_
      refine q_goto o_Tw_brokenBy_79 ?_
      exact h7
    · have h8 := h4.2 c6
      refine q_iload_n o_Tw_brokenBy_69 rfl ?_
      refine q_iconst (v := 1) o_Tw_brokenBy_70 (by decide) ?_
      refine q_iload o_Tw_brokenBy_71 rfl ?_
      refine q_ishl o_Tw_brokenBy_73 ?_
      refine q_ior o_Tw_brokenBy_74 ?_
      refine q2_istn (ls' := [some (.ref a0), some (.long p0), none, some (.int (l3 ||| ((1 : Int32) <<< (l4 &&& 31)))), some (.int l4)]) o_Tw_brokenBy_75 (Nat.le_of_ble_eq_true rfl) rfl ?_
      refine q2_inc (v := (l4 + 1)) (ls' := [some (.ref a0), some (.long p0), none, some (.int (l3 ||| ((1 : Int32) <<< (l4 &&& 31)))), some (.int (l4 + 1))]) o_Tw_brokenBy_76 rfl rfl (Nat.le_of_ble_eq_true rfl) rfl ?_
      refine q_goto o_Tw_brokenBy_79 ?_
      exact h8

set_option maxRecDepth 20000 in
theorem v_Tw_feltBy_0 {G : q_G} {d : Nat} {σ : q_S} {Q : Option Value → q_S → Prop} {a0 : Nat} {p0 : Nat} {p1 : Int32} (ha0 : q_isTw a0) (hp0 : q_kd p0 = (1, 6)) (hs : q_Sh σ) (h : q_At G X_Tw_feltBy (d + 1) 0 0 5 [some (.ref a0), some (.ref p0), some (.int p1), some (.int 0), some (.int 0), none] [] σ Q) : q_At G X_Tw_feltBy (d + 1) 0 0 0 [some (.ref a0), some (.ref p0), some (.int p1), none, none, none] [] σ Q := by
  refine q_iconst (v := 0) o_Tw_feltBy_0 (by decide) ?_
  refine q2_istn (ls' := [some (.ref a0), some (.ref p0), some (.int p1), some (.int 0), none, none]) o_Tw_feltBy_1 (Nat.le_of_ble_eq_true rfl) rfl ?_
  refine q_iconst (v := 0) o_Tw_feltBy_2 (by decide) ?_
  refine q2_ist (ls' := [some (.ref a0), some (.ref p0), some (.int p1), some (.int 0), some (.int 0), none]) o_Tw_feltBy_3 (Nat.le_of_ble_eq_true rfl) rfl ?_
  exact h

set_option maxRecDepth 20000 in
theorem v_Tw_feltBy_5 {G : q_G} {d : Nat} {σ : q_S} {Q : Option Value → q_S → Prop} {a0 : Nat} {p0 : Nat} {p1 : Int32} {l3 : Int32} {l4 : Int32} (ha0 : q_isTw a0) (hs : q_Sh σ) (h : (((q_I σ a0 14) ≤ l4 → Q (some (.int l3)) σ) ∧ (¬ (q_I σ a0 14) ≤ l4 → q_Call G d 0 0 X_Tw_thickBetween [.ref a0, .ref p0, .int p1, .int l4] σ (q_ri (fun x7 σ5 => ((x7 = 0 → q_At G X_Tw_feltBy (d + 1) 0 0 5 [some (.ref a0), some (.ref p0), some (.int p1), some (.int l3), some (.int (l4 + 1)), none] [] σ5 Q) ∧ (¬ x7 = 0 → q_Call G d 0 0 X_Tw_heardPlace [.int p1, .int l4, .int x7] σ5 (q_ri (fun x14 σ12 => (∃ k16, x14 = nI k16 ∧ k16 < 360 ∧ q_At G X_Tw_feltBy (d + 1) 0 0 5 [some (.ref a0), some (.ref p0), some (.int p1), some (.int (l3 + (q_I σ12 (a0 + 12) k16))), some (.int (l4 + 1)), none] [] σ12 Q)))))))))) : q_At G X_Tw_feltBy (d + 1) 0 0 5 [some (.ref a0), some (.ref p0), some (.int p1), some (.int l3), some (.int l4), none] [] σ Q := by
  refine q_iload o_Tw_feltBy_5 rfl ?_
  refine q_aload_n o_Tw_feltBy_7 rfl ?_
  refine q2_getI hs o_Tw_feltBy_8 f_Tw_60 (kd_Tw_0 ha0) ?_
  refine q_icmp_ge o_Tw_feltBy_11 (fun c1 => ?_) (fun c1 => ?_)
  · have h2 := h.1 c1
    refine q_iload_n o_Tw_feltBy_51 rfl ?_
    exact q_ire o_Tw_feltBy_52 rfl h2
  · have h3 := h.2 c1
    refine q_aload_n o_Tw_feltBy_14 rfl ?_
    refine q_aload_n o_Tw_feltBy_15 rfl ?_
    refine q_iload_n o_Tw_feltBy_16 rfl ?_
    refine q_iload o_Tw_feltBy_17 rfl ?_
    refine q2_callVi _ (a := a0) (As := [.ref p0, .int p1, .int l4]) (st := []) hs o_Tw_feltBy_19 k_Tw_93 (kd_Tw_0 ha0) rfl (Nat.le_of_ble_eq_true rfl) h3 (fun x7 σ5 hs6 h4 => ?_)
    refine q2_ist (ls' := [some (.ref a0), some (.ref p0), some (.int p1), some (.int l3), some (.int l4), some (.int x7)]) o_Tw_feltBy_22 (Nat.le_of_ble_eq_true rfl) rfl ?_
    refine q_iload o_Tw_feltBy_24 rfl ?_
    refine q_if_eq o_Tw_feltBy_26 (fun c8 => ?_) (fun c8 => ?_)
    · have h9 := h4.1 c8
      refine q2_inc (v := (l4 + 1)) (ls' := [some (.ref a0), some (.ref p0), some (.int p1), some (.int l3), some (.int (l4 + 1)), some (.int x7)]) o_Tw_feltBy_45 rfl rfl (Nat.le_of_ble_eq_true rfl) rfl ?_
      refine q_goto o_Tw_feltBy_48 ?_
      exact q_weak (ls' := [some (.ref a0), some (.ref p0), some (.int p1), some (.int l3), some (.int (l4 + 1)), none]) (And.intro rfl (And.intro rfl (And.intro rfl (And.intro rfl (And.intro rfl trivial))))) h9
    · have h10 := h4.2 c8
      refine q_iload_n o_Tw_feltBy_29 rfl ?_
      refine q_aload_n o_Tw_feltBy_30 rfl ?_
      refine q2_getR hs6 o_Tw_feltBy_31 f_Tw_46 (kd_Tw_0 ha0) (fz_Tw_11 hs6 ha0) ?_
      refine q_iload_n o_Tw_feltBy_34 rfl ?_
      refine q_iload o_Tw_feltBy_35 rfl ?_
      refine q_iload o_Tw_feltBy_37 rfl ?_
      refine q2_callSi _ (As := [.int p1, .int l4, .int x7]) (st := [.ref (a0 + 12), .int l3]) hs6 o_Tw_feltBy_39 k_Tw_86 rfl (Nat.le_of_ble_eq_true rfl) h10 (fun x14 σ12 hs13 h11 => ?_)
      obtain ⟨k16, eh15, bh15, h15⟩ := h11
      refine q2_iald hs13 o_Tw_feltBy_42 (kd_Tw_12 ha0) eh15 bh15 (by decide) ?_
      refine q_iadd o_Tw_feltBy_43 ?_
      refine q2_istn (ls' := [some (.ref a0), some (.ref p0), some (.int p1), some (.int (l3 + (q_I σ12 (a0 + 12) k16))), some (.int l4), some (.int x7)]) o_Tw_feltBy_44 (Nat.le_of_ble_eq_true rfl) rfl ?_
      refine q2_inc (v := (l4 + 1)) (ls' := [some (.ref a0), some (.ref p0), some (.int p1), some (.int (l3 + (q_I σ12 (a0 + 12) k16))), some (.int (l4 + 1)), some (.int x7)]) o_Tw_feltBy_45 rfl rfl (Nat.le_of_ble_eq_true rfl) rfl ?_
      refine q_goto o_Tw_feltBy_48 ?_
      exact q_weak (ls' := [some (.ref a0), some (.ref p0), some (.int p1), some (.int (l3 + (q_I σ12 (a0 + 12) k16))), some (.int (l4 + 1)), none]) (And.intro rfl (And.intro rfl (And.intro rfl (And.intro rfl (And.intro rfl trivial))))) h15

set_option maxRecDepth 20000 in
theorem v_Tw_joyOf_0 {G : q_G} {d : Nat} {σ : q_S} {Q : Option Value → q_S → Prop} {a0 : Nat} {p0 : Nat} {p1 : Int32} (ha0 : q_isTw a0) (hp0 : q_kd p0 = (1, 6)) (hs : q_Sh σ) (h : q_At G X_Tw_joyOf (d + 1) 0 0 8 [some (.ref a0), some (.ref p0), some (.int p1), some (.int 0), some (.int 0), some (.int 0)] [] σ Q) : q_At G X_Tw_joyOf (d + 1) 0 0 0 [some (.ref a0), some (.ref p0), some (.int p1), none, none, none] [] σ Q := by
  refine q_iconst (v := 0) o_Tw_joyOf_0 (by decide) ?_
  refine q2_istn (ls' := [some (.ref a0), some (.ref p0), some (.int p1), some (.int 0), none, none]) o_Tw_joyOf_1 (Nat.le_of_ble_eq_true rfl) rfl ?_
  refine q_iconst (v := 0) o_Tw_joyOf_2 (by decide) ?_
  refine q2_ist (ls' := [some (.ref a0), some (.ref p0), some (.int p1), some (.int 0), some (.int 0), none]) o_Tw_joyOf_3 (Nat.le_of_ble_eq_true rfl) rfl ?_
  refine q_iconst (v := 0) o_Tw_joyOf_5 (by decide) ?_
  refine q2_ist (ls' := [some (.ref a0), some (.ref p0), some (.int p1), some (.int 0), some (.int 0), some (.int 0)]) o_Tw_joyOf_6 (Nat.le_of_ble_eq_true rfl) rfl ?_
  exact h

set_option maxRecDepth 20000 in
theorem v_Tw_joyOf_8 {G : q_G} {d : Nat} {σ : q_S} {Q : Option Value → q_S → Prop} {a0 : Nat} {p0 : Nat} {p1 : Int32} {l3 : Int32} {l4 : Int32} {l5 : Int32} (ha0 : q_isTw a0) (hs : q_Sh σ) (h : (((q_I σ a0 14) ≤ l5 → q_Call G d 0 0 X_Tw_feltBy [.ref a0, .ref p0, .int p1] σ (q_ri (fun x6 σ4 => q_Call G d 0 0 X_La_valueOf [.ref (a0 + 13), .int 1, .int l3, .int x6, .int l4] σ4 (q_ri (fun x10 σ8 => q_Call G d 0 0 X_W_within [.int (-999), .int x10, .int 999] σ8 (q_ri (fun x14 σ12 => Q (some (.int x14)) σ12))))))) ∧ (¬ (q_I σ a0 14) ≤ l5 → q_Call G d 0 0 X_Tw_areNeighbours [.ref a0, .ref p0, .int p1, .int l5] σ (q_ri (fun x19 σ17 => ((x19 = 0 → q_At G X_Tw_joyOf (d + 1) 0 0 8 [some (.ref a0), some (.ref p0), some (.int p1), some (.int l3), some (.int l4), some (.int (l5 + 1))] [] σ17 Q) ∧ (¬ x19 = 0 → q_Call G d 0 0 X_Tw_fondness [.ref a0, .int p1, .int l5] σ17 (q_ri (fun x26 σ24 => q_At G X_Tw_joyOf (d + 1) 0 0 8 [some (.ref a0), some (.ref p0), some (.int p1), some (.int (l3 + x26)), some (.int (l4 + 1)), some (.int (l5 + 1))] [] σ24 Q))))))))) : q_At G X_Tw_joyOf (d + 1) 0 0 8 [some (.ref a0), some (.ref p0), some (.int p1), some (.int l3), some (.int l4), some (.int l5)] [] σ Q := by
  refine q_iload o_Tw_joyOf_8 rfl ?_
  refine q_aload_n o_Tw_joyOf_10 rfl ?_
  refine q2_getI hs o_Tw_joyOf_11 f_Tw_60 (kd_Tw_0 ha0) ?_
  refine q_icmp_ge o_Tw_joyOf_14 (fun c1 => ?_) (fun c1 => ?_)
  · have h2 := h.1 c1
    refine q_sipush (v := (-999)) o_Tw_joyOf_47 (by decide) ?_
    refine q_aload_n o_Tw_joyOf_50 rfl ?_
    refine q2_getR hs o_Tw_joyOf_51 f_Tw_52 (kd_Tw_0 ha0) (fz_Tw_12 hs ha0) ?_
    refine q_iconst (v := 1) o_Tw_joyOf_54 (by decide) ?_
    refine q_iload_n o_Tw_joyOf_55 rfl ?_
    refine q_aload_n o_Tw_joyOf_56 rfl ?_
    refine q_aload_n o_Tw_joyOf_57 rfl ?_
    refine q_iload_n o_Tw_joyOf_58 rfl ?_
    refine q2_callVi _ (a := a0) (As := [.ref p0, .int p1]) (st := [.int l3, .int 1, .ref (a0 + 13), .int (-999)]) hs o_Tw_joyOf_59 k_Tw_109 (kd_Tw_0 ha0) rfl (Nat.le_of_ble_eq_true rfl) h2 (fun x6 σ4 hs5 h3 => ?_)
    refine q_iload o_Tw_joyOf_62 rfl ?_
    refine q2_callVi _ (a := a0 + 13) (As := [.int 1, .int l3, .int x6, .int l4]) (st := [.int (-999)]) hs5 o_Tw_joyOf_64 k_Tw_82 (kd_La_0 (isLa_of_Tw ha0)) rfl (Nat.le_of_ble_eq_true rfl) h3 (fun x10 σ8 hs9 h7 => ?_)
    refine q_sipush (v := 999) o_Tw_joyOf_67 (by decide) ?_
    refine q2_callSi _ (As := [.int (-999), .int x10, .int 999]) (st := []) hs9 o_Tw_joyOf_70 k_Tw_90 rfl (Nat.le_of_ble_eq_true rfl) h7 (fun x14 σ12 hs13 h11 => ?_)
    exact q_ire o_Tw_joyOf_73 rfl h11
  · have h15 := h.2 c1
    refine q_aload_n o_Tw_joyOf_17 rfl ?_
    refine q_aload_n o_Tw_joyOf_18 rfl ?_
    refine q_iload_n o_Tw_joyOf_19 rfl ?_
    refine q_iload o_Tw_joyOf_20 rfl ?_
    refine q2_callVi _ (a := a0) (As := [.ref p0, .int p1, .int l5]) (st := []) hs o_Tw_joyOf_22 k_Tw_97 (kd_Tw_0 ha0) rfl (Nat.le_of_ble_eq_true rfl) h15 (fun x19 σ17 hs18 h16 => ?_)
    refine q_if_eq o_Tw_joyOf_25 (fun c20 => ?_) (fun c20 => ?_)
    · have h21 := h16.1 c20
      refine q2_inc (v := (l5 + 1)) (ls' := [some (.ref a0), some (.ref p0), some (.int p1), some (.int l3), some (.int l4), some (.int (l5 + 1))]) o_Tw_joyOf_41 rfl rfl (Nat.le_of_ble_eq_true rfl) rfl ?_
      refine q_goto o_Tw_joyOf_44 ?_
      exact h21
    · have h22 := h16.2 c20
      refine q_iload_n o_Tw_joyOf_28 rfl ?_
      refine q_aload_n o_Tw_joyOf_29 rfl ?_
      refine q_iload_n o_Tw_joyOf_30 rfl ?_
      refine q_iload o_Tw_joyOf_31 rfl ?_
      refine q2_callVi _ (a := a0) (As := [.int p1, .int l5]) (st := [.int l3]) hs18 o_Tw_joyOf_33 k_Tw_105 (kd_Tw_0 ha0) rfl (Nat.le_of_ble_eq_true rfl) h22 (fun x26 σ24 hs25 h23 => ?_)
      refine q_iadd o_Tw_joyOf_36 ?_
      refine q2_istn (ls' := [some (.ref a0), some (.ref p0), some (.int p1), some (.int (l3 + x26)), some (.int l4), some (.int l5)]) o_Tw_joyOf_37 (Nat.le_of_ble_eq_true rfl) rfl ?_
      refine q2_inc (v := (l4 + 1)) (ls' := [some (.ref a0), some (.ref p0), some (.int p1), some (.int (l3 + x26)), some (.int (l4 + 1)), some (.int l5)]) o_Tw_joyOf_38 rfl rfl (Nat.le_of_ble_eq_true rfl) rfl ?_
      refine q2_inc (v := (l5 + 1)) (ls' := [some (.ref a0), some (.ref p0), some (.int p1), some (.int (l3 + x26)), some (.int (l4 + 1)), some (.int (l5 + 1))]) o_Tw_joyOf_41 rfl rfl (Nat.le_of_ble_eq_true rfl) rfl ?_
      refine q_goto o_Tw_joyOf_44 ?_
      exact h23

set_option maxRecDepth 20000 in
theorem v_Tw_contentBits_0 {G : q_G} {d : Nat} {σ : q_S} {Q : Option Value → q_S → Prop} {a0 : Nat} {p0 : Nat} (ha0 : q_isTw a0) (hp0 : q_kd p0 = (1, 6)) (hs : q_Sh σ) (h : q_At G X_Tw_contentBits (d + 1) 0 0 4 [some (.ref a0), some (.ref p0), some (.int 0), some (.int 0)] [] σ Q) : q_At G X_Tw_contentBits (d + 1) 0 0 0 [some (.ref a0), some (.ref p0), none, none] [] σ Q := by
  refine q_iconst (v := 0) o_Tw_contentBits_0 (by decide) ?_
  refine q2_istn (ls' := [some (.ref a0), some (.ref p0), some (.int 0), none]) o_Tw_contentBits_1 (Nat.le_of_ble_eq_true rfl) rfl ?_
  refine q_iconst (v := 0) o_Tw_contentBits_2 (by decide) ?_
  refine q2_istn (ls' := [some (.ref a0), some (.ref p0), some (.int 0), some (.int 0)]) o_Tw_contentBits_3 (Nat.le_of_ble_eq_true rfl) rfl ?_
  exact h

set_option maxRecDepth 20000 in
theorem v_Tw_contentBits_4 {G : q_G} {d : Nat} {σ : q_S} {Q : Option Value → q_S → Prop} {a0 : Nat} {p0 : Nat} {l2 : Int32} {l3 : Int32} (ha0 : q_isTw a0) (hs : q_Sh σ) (h : (((q_I σ a0 14) ≤ l3 → Q (some (.int l2)) σ) ∧ (¬ (q_I σ a0 14) ≤ l3 → q_Call G d 0 0 X_Tw_joyOf [.ref a0, .ref p0, .int l3] σ (q_ri (fun x7 σ5 => ((x7 < 0 → q_At G X_Tw_contentBits (d + 1) 0 0 4 [some (.ref a0), some (.ref p0), some (.int l2), some (.int (l3 + 1))] [] σ5 Q) ∧ (¬ x7 < 0 → q_At G X_Tw_contentBits (d + 1) 0 0 4 [some (.ref a0), some (.ref p0), some (.int (l2 ||| ((1 : Int32) <<< (l3 &&& 31)))), some (.int (l3 + 1))] [] σ5 Q))))))) : q_At G X_Tw_contentBits (d + 1) 0 0 4 [some (.ref a0), some (.ref p0), some (.int l2), some (.int l3)] [] σ Q := by
  refine q_iload_n o_Tw_contentBits_4 rfl ?_
  refine q_aload_n o_Tw_contentBits_5 rfl ?_
  refine q2_getI hs o_Tw_contentBits_6 f_Tw_60 (kd_Tw_0 ha0) ?_
  refine q_icmp_ge o_Tw_contentBits_9 (fun c1 => ?_) (fun c1 => ?_)
  · have h2 := h.1 c1
    refine q_iload_n o_Tw_contentBits_33 rfl ?_
    exact q_ire o_Tw_contentBits_34 rfl h2
  · have h3 := h.2 c1
    refine q_aload_n o_Tw_contentBits_12 rfl ?_
    refine q_aload_n o_Tw_contentBits_13 rfl ?_
    refine q_iload_n o_Tw_contentBits_14 rfl ?_
    refine q2_callVi _ (a := a0) (As := [.ref p0, .int l3]) (st := []) hs o_Tw_contentBits_15 k_Tw_113 (kd_Tw_0 ha0) rfl (Nat.le_of_ble_eq_true rfl) h3 (fun x7 σ5 hs6 h4 => ?_)
    refine q_if_lt o_Tw_contentBits_18 (fun c8 => ?_) (fun c8 => ?_)
    · have h9 := h4.1 c8
      refine q2_inc (v := (l3 + 1)) (ls' := [some (.ref a0), some (.ref p0), some (.int l2), some (.int (l3 + 1))]) o_Tw_contentBits_27 rfl rfl (Nat.le_of_ble_eq_true rfl) rfl ?_
      refine q_goto o_Tw_contentBits_30 ?_
      exact h9
    · have h10 := h4.2 c8
      refine q_iload_n o_Tw_contentBits_21 rfl ?_
      refine q_iconst (v := 1) o_Tw_contentBits_22 (by decide) ?_
      refine q_iload_n o_Tw_contentBits_23 rfl ?_
      refine q_ishl o_Tw_contentBits_24 ?_
      refine q_ior o_Tw_contentBits_25 ?_
      refine q2_istn (ls' := [some (.ref a0), some (.ref p0), some (.int (l2 ||| ((1 : Int32) <<< (l3 &&& 31)))), some (.int l3)]) o_Tw_contentBits_26 (Nat.le_of_ble_eq_true rfl) rfl ?_
      refine q2_inc (v := (l3 + 1)) (ls' := [some (.ref a0), some (.ref p0), some (.int (l2 ||| ((1 : Int32) <<< (l3 &&& 31)))), some (.int (l3 + 1))]) o_Tw_contentBits_27 rfl rfl (Nat.le_of_ble_eq_true rfl) rfl ?_
      refine q_goto o_Tw_contentBits_30 ?_
      exact h10

set_option maxRecDepth 20000 in
theorem v_Tw_isAtRest_0 {G : q_G} {d : Nat} {σ : q_S} {Q : Option Value → q_S → Prop} {a0 : Nat} {p0 : Int32} {p1 : Int32} {p2 : Int32} (ha0 : q_isTw a0) (hs : q_Sh σ) (h : q_Call G d 0 0 X_Tw_hedge [.ref a0, .int p0, .int p1, .int (p2 >>> ((1 : Int32) &&& 31)), .int (p2 &&& 1)] σ (q_ri (fun x4 σ2 => q_Call G d 0 0 X_Tw_hedge [.ref a0, .int p0, .int p1, .int (1 - (p2 >>> ((1 : Int32) &&& 31))), .int (p2 &&& 1)] σ2 (q_ri (fun x8 σ6 => ((x4 < x8 → Q (some (.int 0)) σ6) ∧ (¬ x4 < x8 → q_Call G d 0 0 X_Tw_hedge [.ref a0, .int p1, .int p0, .int (p2 &&& 1), .int (p2 >>> ((1 : Int32) &&& 31))] σ6 (q_ri (fun x15 σ13 => q_Call G d 0 0 X_Tw_hedge [.ref a0, .int p1, .int p0, .int (1 - (p2 &&& 1)), .int (p2 >>> ((1 : Int32) &&& 31))] σ13 (q_ri (fun x19 σ17 => (narrow .boolean (.int (if x15 < x19 then (0 : Int32) else (1 : Int32))) = .int (if x15 < x19 then (0 : Int32) else (1 : Int32)) ∧ Q (some (.int (if x15 < x19 then (0 : Int32) else (1 : Int32)))) σ17)))))))))))) : q_At G X_Tw_isAtRest (d + 1) 0 0 0 [some (.ref a0), some (.int p0), some (.int p1), some (.int p2), none, none] [] σ Q := by
  refine q_iload_n o_Tw_isAtRest_0 rfl ?_
  refine q_iconst (v := 1) o_Tw_isAtRest_1 (by decide) ?_
  refine q_ishr o_Tw_isAtRest_2 ?_
  refine q2_ist (ls' := [some (.ref a0), some (.int p0), some (.int p1), some (.int p2), some (.int (p2 >>> ((1 : Int32) &&& 31))), none]) o_Tw_isAtRest_3 (Nat.le_of_ble_eq_true rfl) rfl ?_
  refine q_iload_n o_Tw_isAtRest_5 rfl ?_
  refine q_iconst (v := 1) o_Tw_isAtRest_6 (by decide) ?_
  refine q_iand o_Tw_isAtRest_7 ?_
  refine q2_ist (ls' := [some (.ref a0), some (.int p0), some (.int p1), some (.int p2), some (.int (p2 >>> ((1 : Int32) &&& 31))), some (.int (p2 &&& 1))]) o_Tw_isAtRest_8 (Nat.le_of_ble_eq_true rfl) rfl ?_
  refine q_aload_n o_Tw_isAtRest_10 rfl ?_
  refine q_iload_n o_Tw_isAtRest_11 rfl ?_
  refine q_iload_n o_Tw_isAtRest_12 rfl ?_
  refine q_iload o_Tw_isAtRest_13 rfl ?_
  refine q_iload o_Tw_isAtRest_15 rfl ?_
  refine q2_callVi _ (a := a0) (As := [.int p0, .int p1, .int (p2 >>> ((1 : Int32) &&& 31)), .int (p2 &&& 1)]) (st := []) hs o_Tw_isAtRest_17 k_Tw_116 (kd_Tw_0 ha0) rfl (Nat.le_of_ble_eq_true rfl) h (fun x4 σ2 hs3 h1 => ?_)
  refine q_aload_n o_Tw_isAtRest_20 rfl ?_
  refine q_iload_n o_Tw_isAtRest_21 rfl ?_
  refine q_iload_n o_Tw_isAtRest_22 rfl ?_
  refine q_iconst (v := 1) o_Tw_isAtRest_23 (by decide) ?_
  refine q_iload o_Tw_isAtRest_24 rfl ?_
  refine q_isub o_Tw_isAtRest_26 ?_
  refine q_iload o_Tw_isAtRest_27 rfl ?_
  refine q2_callVi _ (a := a0) (As := [.int p0, .int p1, .int (1 - (p2 >>> ((1 : Int32) &&& 31))), .int (p2 &&& 1)]) (st := [.int x4]) hs3 o_Tw_isAtRest_29 k_Tw_116 (kd_Tw_0 ha0) rfl (Nat.le_of_ble_eq_true rfl) h1 (fun x8 σ6 hs7 h5 => ?_)
  refine q_icmp_lt o_Tw_isAtRest_32 (fun c9 => ?_) (fun c9 => ?_)
  · have h10 := h5.1 c9
    refine q_iconst (v := 0) o_Tw_isAtRest_64 (by decide) ?_
    exact q_zre o_Tw_isAtRest_65 rfl rfl h10
  · have h11 := h5.2 c9
    refine q_aload_n o_Tw_isAtRest_35 rfl ?_
    refine q_iload_n o_Tw_isAtRest_36 rfl ?_
    refine q_iload_n o_Tw_isAtRest_37 rfl ?_
    refine q_iload o_Tw_isAtRest_38 rfl ?_
    refine q_iload o_Tw_isAtRest_40 rfl ?_
    refine q2_callVi _ (a := a0) (As := [.int p1, .int p0, .int (p2 &&& 1), .int (p2 >>> ((1 : Int32) &&& 31))]) (st := []) hs7 o_Tw_isAtRest_42 k_Tw_116 (kd_Tw_0 ha0) rfl (Nat.le_of_ble_eq_true rfl) h11 (fun x15 σ13 hs14 h12 => ?_)
    refine q_aload_n o_Tw_isAtRest_45 rfl ?_
    refine q_iload_n o_Tw_isAtRest_46 rfl ?_
    refine q_iload_n o_Tw_isAtRest_47 rfl ?_
    refine q_iconst (v := 1) o_Tw_isAtRest_48 (by decide) ?_
    refine q_iload o_Tw_isAtRest_49 rfl ?_
    refine q_isub o_Tw_isAtRest_51 ?_
    refine q_iload o_Tw_isAtRest_52 rfl ?_
    refine q2_callVi _ (a := a0) (As := [.int p1, .int p0, .int (1 - (p2 &&& 1)), .int (p2 >>> ((1 : Int32) &&& 31))]) (st := [.int x15]) hs14 o_Tw_isAtRest_54 k_Tw_116 (kd_Tw_0 ha0) rfl (Nat.le_of_ble_eq_true rfl) h12 (fun x19 σ17 hs18 h16 => ?_)
    have hJ : ∀ vJ : Int32, vJ = (if x15 < x19 then (0 : Int32) else (1 : Int32)) → q_At G X_Tw_isAtRest (d + 1) 0 0 65 [some (.ref a0), some (.int p0), some (.int p1), some (.int p2), some (.int (p2 >>> ((1 : Int32) &&& 31))), some (.int (p2 &&& 1))] [.int vJ] σ17 Q := by
      intro vJ eJ
      rw [eJ]
      clear eJ vJ
      exact q_zre o_Tw_isAtRest_65 rfl h16.1 h16.2
    refine q_icmp_lt o_Tw_isAtRest_57 (fun c20 => ?_) (fun c20 => ?_)
    · refine q_iconst (v := 0) o_Tw_isAtRest_64 (by decide) ?_
      exact hJ _ (Eq.symm (if_pos c20))
    · refine q_iconst (v := 1) o_Tw_isAtRest_60 (by decide) ?_
      refine q_goto o_Tw_isAtRest_61 ?_
      exact hJ _ (Eq.symm (if_neg c20))

set_option maxRecDepth 20000 in
theorem v_Tw_hedge_0 {G : q_G} {d : Nat} {σ : q_S} {Q : Option Value → q_S → Prop} {a0 : Nat} {p0 : Int32} {p1 : Int32} {p2 : Int32} {p3 : Int32} (ha0 : q_isTw a0) (hs : q_Sh σ) (h : q_Call G d 0 0 X_Tw_fondness [.ref a0, .int p0, .int p1] σ (q_ri (fun x4 σ2 => q_Call G d 0 0 X_La_valueOf [.ref (a0 + 13), .int 2, .int p2, .int p3, .int x4] σ2 (q_ri (fun x8 σ6 => q_Call G d 0 0 X_W_within [.int (-99), .int x8, .int 99] σ6 (q_ri (fun x12 σ10 => Q (some (.int x12)) σ10))))))) : q_At G X_Tw_hedge (d + 1) 0 0 0 [some (.ref a0), some (.int p0), some (.int p1), some (.int p2), some (.int p3)] [] σ Q := by
  refine q_bipush (v := (-99)) o_Tw_hedge_0 (by decide) ?_
  refine q_aload_n o_Tw_hedge_2 rfl ?_
  refine q2_getR hs o_Tw_hedge_3 f_Tw_52 (kd_Tw_0 ha0) (fz_Tw_12 hs ha0) ?_
  refine q_iconst (v := 2) o_Tw_hedge_6 (by decide) ?_
  refine q_iload_n o_Tw_hedge_7 rfl ?_
  refine q_iload o_Tw_hedge_8 rfl ?_
  refine q_aload_n o_Tw_hedge_10 rfl ?_
  refine q_iload_n o_Tw_hedge_11 rfl ?_
  refine q_iload_n o_Tw_hedge_12 rfl ?_
  refine q2_callVi _ (a := a0) (As := [.int p0, .int p1]) (st := [.int p3, .int p2, .int 2, .ref (a0 + 13), .int (-99)]) hs o_Tw_hedge_13 k_Tw_105 (kd_Tw_0 ha0) rfl (Nat.le_of_ble_eq_true rfl) h (fun x4 σ2 hs3 h1 => ?_)
  refine q2_callVi _ (a := a0 + 13) (As := [.int 2, .int p2, .int p3, .int x4]) (st := [.int (-99)]) hs3 o_Tw_hedge_16 k_Tw_82 (kd_La_0 (isLa_of_Tw ha0)) rfl (Nat.le_of_ble_eq_true rfl) h1 (fun x8 σ6 hs7 h5 => ?_)
  refine q_bipush (v := 99) o_Tw_hedge_19 (by decide) ?_
  refine q2_callSi _ (As := [.int (-99), .int x8, .int 99]) (st := []) hs7 o_Tw_hedge_21 k_Tw_90 rfl (Nat.le_of_ble_eq_true rfl) h5 (fun x12 σ10 hs11 h9 => ?_)
  exact q_ire o_Tw_hedge_24 rfl h9

set_option maxRecDepth 20000 in
theorem v_Wy_learn_0 {G : q_G} {d : Nat} {σ : q_S} {Q : Option Value → q_S → Prop} {p0 : Nat} (hp0 : q_isTw p0) (hs : q_Sh σ) (h : (((q_I σ 5 8) = 0 → q_At G X_Wy_learn (d + 1) 0 0 28 [some (.ref 5), some (.ref p0), some (.int 0)] [] (q_setI (q_setI (q_setI σ 5 8 1) 5 7 0) 5 6 (q_I (q_setI (q_setI σ 5 8 1) 5 7 0) p0 14)) Q) ∧ (¬ (q_I σ 5 8) = 0 → Q none σ))) : q_At G X_Wy_learn (d + 1) 0 0 0 [some (.ref 5), some (.ref p0), none] [] σ Q := by
  refine q_aload_n o_Wy_learn_0 rfl ?_
  refine q2_getI hs o_Wy_learn_1 f_Wy_31 rfl ?_
  refine q_if_eq o_Wy_learn_4 (fun c1 => ?_) (fun c1 => ?_)
  · have h2 := h.1 c1
    refine q_aload_n o_Wy_learn_8 rfl ?_
    refine q_iconst (v := 1) o_Wy_learn_9 (by decide) ?_
    refine q2_putI hs o_Wy_learn_10 fp_Wy_31 rfl rfl rfl ?_
    refine q_aload_n o_Wy_learn_13 rfl ?_
    refine q_iconst (v := 0) o_Wy_learn_14 (by decide) ?_
    refine q2_putI hs o_Wy_learn_15 fp_Wy_35 rfl rfl rfl ?_
    refine q_aload_n o_Wy_learn_18 rfl ?_
    refine q_aload_n o_Wy_learn_19 rfl ?_
    refine q2_getI hs o_Wy_learn_20 f_Wy_39 (kd_Tw_0 hp0) ?_
    refine q2_putI hs o_Wy_learn_23 fp_Wy_44 rfl rfl rfl ?_
    refine q_iconst (v := 0) o_Wy_learn_26 (by decide) ?_
    refine q2_istn (ls' := [some (.ref 5), some (.ref p0), some (.int 0)]) o_Wy_learn_27 (Nat.le_of_ble_eq_true rfl) rfl ?_
    exact h2
  · have h3 := h.2 c1
    exact q_vre o_Wy_learn_7 rfl h3

set_option maxRecDepth 20000 in
theorem v_Wy_learn_28 {G : q_G} {d : Nat} {σ : q_S} {Q : Option Value → q_S → Prop} {p0 : Nat} {l2 : Int32}  (hs : q_Sh σ) (h : ((6 ≤ l2 → q_Call G d 0 0 X_Wy_settle [.ref 5, .ref p0, .int 0, .int 0] σ (q_rv (fun σ4 => Q none σ4))) ∧ (¬ 6 ≤ l2 → (∃ k8, l2 = nI k8 ∧ k8 < 6 ∧ q_At G X_Wy_learn (d + 1) 0 0 28 [some (.ref 5), some (.ref p0), some (.int (l2 + 1))] [] (q_setI σ 10 k8 0) Q)))) : q_At G X_Wy_learn (d + 1) 0 0 28 [some (.ref 5), some (.ref p0), some (.int l2)] [] σ Q := by
  refine q_iload_n o_Wy_learn_28 rfl ?_
  refine q_bipush (v := 6) o_Wy_learn_29 (by decide) ?_
  refine q_icmp_ge o_Wy_learn_31 (fun c1 => ?_) (fun c1 => ?_)
  · have h2 := h.1 c1
    refine q_aload_n o_Wy_learn_47 rfl ?_
    refine q_aload_n o_Wy_learn_48 rfl ?_
    refine q_iconst (v := 0) o_Wy_learn_49 (by decide) ?_
    refine q_iconst (v := 0) o_Wy_learn_50 (by decide) ?_
    refine q2_callVv _ (a := 5) (As := [.ref p0, .int 0, .int 0]) (st := []) hs o_Wy_learn_51 k_Wy_45 rfl rfl (Nat.le_of_ble_eq_true rfl) h2 (fun σ4 hs5 h3 => ?_)
    exact q_vre o_Wy_learn_54 rfl h3
  · have h6 := h.2 c1
    refine q_aload_n o_Wy_learn_34 rfl ?_
    refine q2_getR hs o_Wy_learn_35 f_Wy_25 rfl (fz_5_4 hs) ?_
    refine q_iload_n o_Wy_learn_38 rfl ?_
    refine q_iconst (v := 0) o_Wy_learn_39 (by decide) ?_
    obtain ⟨k8, eh7, bh7, h7⟩ := h6
    refine q2_iast hs o_Wy_learn_40 rfl eh7 bh7 (by decide) ?_
    refine q2_inc (v := (l2 + 1)) (ls' := [some (.ref 5), some (.ref p0), some (.int (l2 + 1))]) o_Wy_learn_41 rfl rfl (Nat.le_of_ble_eq_true rfl) rfl ?_
    refine q_goto o_Wy_learn_44 ?_
    exact h7

set_option maxRecDepth 20000 in
theorem v_Wy_settle_0 {G : q_G} {d : Nat} {σ : q_S} {Q : Option Value → q_S → Prop} {p0 : Nat} {p1 : Int32} {p2 : Int32} (hp0 : q_isTw p0) (hs : q_Sh σ) (h : (((q_I σ 5 6) ≤ p1 → q_Call G d 0 0 X_Wy_note [.ref 5, .ref p0] σ (q_rv (fun σ4 => Q none σ4))) ∧ (¬ (q_I σ 5 6) ≤ p1 → ((p1 < 6 → q_At G X_Wy_settle (d + 1) 0 0 23 [some (.ref 5), some (.ref p0), some (.int p1), some (.int p2), some (.int 0)] [] σ Q) ∧ (¬ p1 < 6 → q_Call G d 0 0 X_Wy_note [.ref 5, .ref p0] σ (q_rv (fun σ11 => Q none σ11))))))) : q_At G X_Wy_settle (d + 1) 0 0 0 [some (.ref 5), some (.ref p0), some (.int p1), some (.int p2), none] [] σ Q := by
  refine q_iload_n o_Wy_settle_0 rfl ?_
  refine q_aload_n o_Wy_settle_1 rfl ?_
  refine q2_getI hs o_Wy_settle_2 f_Wy_44 rfl ?_
  refine q_icmp_ge o_Wy_settle_5 (fun c1 => ?_) (fun c1 => ?_)
  · have h2 := h.1 c1
    refine q_aload_n o_Wy_settle_14 rfl ?_
    refine q_aload_n o_Wy_settle_15 rfl ?_
    refine q2_callVv _ (a := 5) (As := [.ref p0]) (st := []) hs o_Wy_settle_16 k_Wy_49 rfl rfl (Nat.le_of_ble_eq_true rfl) h2 (fun σ4 hs5 h3 => ?_)
    exact q_vre o_Wy_settle_19 rfl h3
  · have h6 := h.2 c1
    refine q_iload_n o_Wy_settle_8 rfl ?_
    refine q_bipush (v := 6) o_Wy_settle_9 (by decide) ?_
    refine q_icmp_lt o_Wy_settle_11 (fun c7 => ?_) (fun c7 => ?_)
    · have h8 := h6.1 c7
      refine q_iconst (v := 0) o_Wy_settle_20 (by decide) ?_
      refine q2_ist (ls' := [some (.ref 5), some (.ref p0), some (.int p1), some (.int p2), some (.int 0)]) o_Wy_settle_21 (Nat.le_of_ble_eq_true rfl) rfl ?_
      exact h8
    · have h9 := h6.2 c7
      refine q_aload_n o_Wy_settle_14 rfl ?_
      refine q_aload_n o_Wy_settle_15 rfl ?_
      refine q2_callVv _ (a := 5) (As := [.ref p0]) (st := []) hs o_Wy_settle_16 k_Wy_49 rfl rfl (Nat.le_of_ble_eq_true rfl) h9 (fun σ11 hs12 h10 => ?_)
      exact q_vre o_Wy_settle_19 rfl h10

set_option maxRecDepth 20000 in
theorem v_Wy_settle_23 {G : q_G} {d : Nat} {σ : q_S} {Q : Option Value → q_S → Prop} {p0 : Nat} {p1 : Int32} {p2 : Int32} {l4 : Int32} (hp0 : q_isTw p0) (hs : q_Sh σ) (h : (((q_I σ p0 13) ≤ l4 → Q none σ) ∧ (¬ (q_I σ p0 13) ≤ l4 → ((¬ ((p2 >>> (l4 &&& 31)) &&& 1) = 0 → q_At G X_Wy_settle (d + 1) 0 0 23 [some (.ref 5), some (.ref p0), some (.int p1), some (.int p2), some (.int (l4 + 1))] [] σ Q) ∧ (((p2 >>> (l4 &&& 31)) &&& 1) = 0 → (∃ k8, p1 = nI k8 ∧ k8 < 6 ∧ q_Call G d 0 0 X_Wy_settle [.ref 5, .ref p0, .int (p1 + 1), .int (p2 ||| ((1 : Int32) <<< (l4 &&& 31)))] (q_setI σ 11 k8 l4) (q_rv (fun σ10 => q_At G X_Wy_settle (d + 1) 0 0 23 [some (.ref 5), some (.ref p0), some (.int p1), some (.int p2), some (.int (l4 + 1))] [] σ10 Q)))))))) : q_At G X_Wy_settle (d + 1) 0 0 23 [some (.ref 5), some (.ref p0), some (.int p1), some (.int p2), some (.int l4)] [] σ Q := by
  refine q_iload o_Wy_settle_23 rfl ?_
  refine q_aload_n o_Wy_settle_25 rfl ?_
  refine q2_getI hs o_Wy_settle_26 f_Wy_53 (kd_Tw_0 hp0) ?_
  refine q_icmp_ge o_Wy_settle_29 (fun c1 => ?_) (fun c1 => ?_)
  · have h2 := h.1 c1
    exact q_vre o_Wy_settle_69 rfl h2
  · have h3 := h.2 c1
    refine q_iload_n o_Wy_settle_32 rfl ?_
    refine q_iload o_Wy_settle_33 rfl ?_
    refine q_ishr o_Wy_settle_35 ?_
    refine q_iconst (v := 1) o_Wy_settle_36 (by decide) ?_
    refine q_iand o_Wy_settle_37 ?_
    refine q_if_ne o_Wy_settle_38 (fun c4 => ?_) (fun c4 => ?_)
    · have h5 := h3.1 c4
      refine q2_inc (v := (l4 + 1)) (ls' := [some (.ref 5), some (.ref p0), some (.int p1), some (.int p2), some (.int (l4 + 1))]) o_Wy_settle_63 rfl rfl (Nat.le_of_ble_eq_true rfl) rfl ?_
      refine q_goto o_Wy_settle_66 ?_
      exact h5
    · have h6 := h3.2 c4
      refine q_aload_n o_Wy_settle_41 rfl ?_
      refine q2_getR hs o_Wy_settle_42 f_Wy_28 rfl (fz_5_5 hs) ?_
      refine q_iload_n o_Wy_settle_45 rfl ?_
      refine q_iload o_Wy_settle_46 rfl ?_
      obtain ⟨k8, eh7, bh7, h7⟩ := h6
      refine q2_iast hs o_Wy_settle_48 rfl eh7 bh7 (by decide) ?_
      refine q_aload_n o_Wy_settle_49 rfl ?_
      refine q_aload_n o_Wy_settle_50 rfl ?_
      refine q_iload_n o_Wy_settle_51 rfl ?_
      refine q_iconst (v := 1) o_Wy_settle_52 (by decide) ?_
      refine q_iadd o_Wy_settle_53 ?_
      refine q_iload_n o_Wy_settle_54 rfl ?_
      refine q_iconst (v := 1) o_Wy_settle_55 (by decide) ?_
      refine q_iload o_Wy_settle_56 rfl ?_
      refine q_ishl o_Wy_settle_58 ?_
      refine q_ior o_Wy_settle_59 ?_
      refine q2_callVv _ (a := 5) (As := [.ref p0, .int (p1 + 1), .int (p2 ||| ((1 : Int32) <<< (l4 &&& 31)))]) (st := []) hs o_Wy_settle_60 k_Wy_45 rfl rfl (Nat.le_of_ble_eq_true rfl) h7 (fun σ10 hs11 h9 => ?_)
      refine q2_inc (v := (l4 + 1)) (ls' := [some (.ref 5), some (.ref p0), some (.int p1), some (.int p2), some (.int (l4 + 1))]) o_Wy_settle_63 rfl rfl (Nat.le_of_ble_eq_true rfl) rfl ?_
      refine q_goto o_Wy_settle_66 ?_
      exact h9

set_option maxRecDepth 20000 in
theorem v_Wy_note_0 {G : q_G} {d : Nat} {σ : q_S} {Q : Option Value → q_S → Prop} {p0 : Nat} (hp0 : q_isTw p0) (hs : q_Sh σ) (h : (((q_I σ 5 7) < 720 → q_At G X_Wy_note (d + 1) 0 0 21 [some (.ref 5), some (.ref p0), some (.int 0), some (.long 0), none, some (.int 0), some (.int 0), none] [] σ Q) ∧ (¬ (q_I σ 5 7) < 720 → Q none σ))) : q_At G X_Wy_note (d + 1) 0 0 0 [some (.ref 5), some (.ref p0), none, none, none, none, none, none] [] σ Q := by
  refine q_aload_n o_Wy_note_0 rfl ?_
  refine q2_getI hs o_Wy_note_1 f_Wy_35 rfl ?_
  refine q_sipush (v := 720) o_Wy_note_4 (by decide) ?_
  refine q_icmp_lt o_Wy_note_7 (fun c1 => ?_) (fun c1 => ?_)
  · have h2 := h.1 c1
    refine q_iconst (v := 0) o_Wy_note_11 (by decide) ?_
    refine q2_istn (ls' := [some (.ref 5), some (.ref p0), some (.int 0), none, none, none, none, none]) o_Wy_note_12 (Nat.le_of_ble_eq_true rfl) rfl ?_
    refine q_lconst (v := 0) o_Wy_note_13 (by decide) ?_
    refine q2_lstn (ls' := [some (.ref 5), some (.ref p0), some (.int 0), some (.long 0), none, none, none, none]) o_Wy_note_14 (Nat.le_of_ble_eq_true rfl) rfl ?_
    refine q_iconst (v := 0) o_Wy_note_15 (by decide) ?_
    refine q2_ist (ls' := [some (.ref 5), some (.ref p0), some (.int 0), some (.long 0), none, some (.int 0), none, none]) o_Wy_note_16 (Nat.le_of_ble_eq_true rfl) rfl ?_
    refine q_iconst (v := 0) o_Wy_note_18 (by decide) ?_
    refine q2_ist (ls' := [some (.ref 5), some (.ref p0), some (.int 0), some (.long 0), none, some (.int 0), some (.int 0), none]) o_Wy_note_19 (Nat.le_of_ble_eq_true rfl) rfl ?_
    exact h2
  · have h3 := h.2 c1
    exact q_vre o_Wy_note_10 rfl h3

set_option maxRecDepth 20000 in
theorem v_Wy_note_21 {G : q_G} {d : Nat} {σ : q_S} {Q : Option Value → q_S → Prop} {p0 : Nat} {l2 : Int32} {l3 : Int64} {l5 : Int32} {l6 : Int32} (hp0 : q_isTw p0) (hs : q_Sh σ) (h : (((q_I σ 5 6) ≤ l6 → (∃ k4, (q_I σ 5 7) = nI k4 ∧ k4 < 720 ∧ (∃ k6, (q_I (q_setI σ 6 k4 l2) 5 7) = nI k6 ∧ k6 < 720 ∧ (∃ k8, (q_I (q_setL (q_setI σ 6 k4 l2) 7 k6 l3) 5 7) = nI k8 ∧ k8 < 720 ∧ q_Call G d 0 0 X_Tw_pairsOf [.ref p0, .ref 11] (q_setI (q_setL (q_setI σ 6 k4 l2) 7 k6 l3) 9 k8 l5) (q_rl (fun x12 σ10 => (∃ k14, (q_I (q_setI (q_setL (q_setI σ 6 k4 l2) 7 k6 l3) 9 k8 l5) 5 7) = nI k14 ∧ k14 < 720 ∧ Q none (q_setI (q_setL σ10 8 k14 x12) 5 7 ((q_I (q_setL σ10 8 k14 x12) 5 7) + 1))))))))) ∧ (¬ (q_I σ 5 6) ≤ l6 → q_Call G d 0 0 X_Tw_joyOf [.ref p0, .ref 11, .int l6] σ (q_ri (fun x19 σ17 => (∃ k21, l6 = nI k21 ∧ k21 < 6 ∧ (∃ k23, l6 = nI k23 ∧ k23 < 6 ∧ (∃ k26, l6 = nI k26 ∧ k26 < 6 ∧ q_Call G d 0 0 X_Tw_feltBy [.ref p0, .ref 11, .int l6] (q_setI σ17 10 k23 ((q_I σ17 10 k21) + x19)) (q_ri (fun x30 σ28 => q_At G X_Wy_note (d + 1) 0 0 21 [some (.ref 5), some (.ref p0), some (.int (l2 ||| ((q_I (q_setI σ17 10 k23 ((q_I σ17 10 k21) + x19)) 11 k26) <<< ((3 * l6) &&& 31)))), some (.long (l3 ||| (x30.toInt64 <<< ((9 * l6).toInt64 &&& 63)))), none, some (.int (l5 + (if x19 < 0 then (0 : Int32) else (1 : Int32)))), some (.int (l6 + 1)), none] [] σ28 Q)))))))))) : q_At G X_Wy_note (d + 1) 0 0 21 [some (.ref 5), some (.ref p0), some (.int l2), some (.long l3), none, some (.int l5), some (.int l6), none] [] σ Q := by
  refine q_iload o_Wy_note_21 rfl ?_
  refine q_aload_n o_Wy_note_23 rfl ?_
  refine q2_getI hs o_Wy_note_24 f_Wy_44 rfl ?_
  refine q_icmp_ge o_Wy_note_27 (fun c1 => ?_) (fun c1 => ?_)
  · have h2 := h.1 c1
    refine q_aload_n o_Wy_note_110 rfl ?_
    refine q2_getR hs o_Wy_note_111 f_Wy_9 rfl (fz_5_0 hs) ?_
    refine q_aload_n o_Wy_note_114 rfl ?_
    refine q2_getI hs o_Wy_note_115 f_Wy_35 rfl ?_
    refine q_iload_n o_Wy_note_118 rfl ?_
    obtain ⟨k4, eh3, bh3, h3⟩ := h2
    refine q2_iast hs o_Wy_note_119 rfl eh3 bh3 (by decide) ?_
    refine q_aload_n o_Wy_note_120 rfl ?_
    refine q2_getR hs o_Wy_note_121 f_Wy_15 rfl (fz_5_1 hs) ?_
    refine q_aload_n o_Wy_note_124 rfl ?_
    refine q2_getI hs o_Wy_note_125 f_Wy_35 rfl ?_
    refine q_lload_n o_Wy_note_128 rfl ?_
    obtain ⟨k6, eh5, bh5, h5⟩ := h3
    refine q2_last hs o_Wy_note_129 rfl eh5 bh5 (by decide) ?_
    refine q_aload_n o_Wy_note_130 rfl ?_
    refine q2_getR hs o_Wy_note_131 f_Wy_22 rfl (fz_5_3 hs) ?_
    refine q_aload_n o_Wy_note_134 rfl ?_
    refine q2_getI hs o_Wy_note_135 f_Wy_35 rfl ?_
    refine q_iload o_Wy_note_138 rfl ?_
    obtain ⟨k8, eh7, bh7, h7⟩ := h5
    refine q2_iast hs o_Wy_note_140 rfl eh7 bh7 (by decide) ?_
    refine q_aload_n o_Wy_note_141 rfl ?_
    refine q2_getR hs o_Wy_note_142 f_Wy_19 rfl (fz_5_2 hs) ?_
    refine q_aload_n o_Wy_note_145 rfl ?_
    refine q2_getI hs o_Wy_note_146 f_Wy_35 rfl ?_
    refine q_aload_n o_Wy_note_149 rfl ?_
    refine q_aload_n o_Wy_note_150 rfl ?_
    refine q2_getR hs o_Wy_note_151 f_Wy_28 rfl (fz_5_5 hs) ?_
    refine q2_callVl _ (a := p0) (As := [.ref 11]) (st := [.int (q_I (q_setI (q_setL (q_setI σ 6 k4 l2) 7 k6 l3) 9 k8 l5) 5 7), .ref 8]) hs o_Wy_note_154 k_Wy_63 (kd_Tw_0 hp0) rfl (Nat.le_of_ble_eq_true rfl) h7 (fun x12 σ10 hs11 h9 => ?_)
    obtain ⟨k14, eh13, bh13, h13⟩ := h9
    refine q2_last hs11 o_Wy_note_157 rfl eh13 bh13 (by decide) ?_
    refine q_aload_n o_Wy_note_158 rfl ?_
    refine q_dup o_Wy_note_159 rfl ?_
    refine q2_getI hs11 o_Wy_note_160 f_Wy_35 rfl ?_
    refine q_iconst (v := 1) o_Wy_note_163 (by decide) ?_
    refine q_iadd o_Wy_note_164 ?_
    refine q2_putI hs11 o_Wy_note_165 fp_Wy_35 rfl rfl rfl ?_
    exact q_vre o_Wy_note_168 rfl h13
  · have h15 := h.2 c1
    refine q_aload_n o_Wy_note_30 rfl ?_
    refine q_aload_n o_Wy_note_31 rfl ?_
    refine q2_getR hs o_Wy_note_32 f_Wy_28 rfl (fz_5_5 hs) ?_
    refine q_iload o_Wy_note_35 rfl ?_
    refine q2_callVi _ (a := p0) (As := [.ref 11, .int l6]) (st := []) hs o_Wy_note_37 k_Wy_56 (kd_Tw_0 hp0) rfl (Nat.le_of_ble_eq_true rfl) h15 (fun x19 σ17 hs18 h16 => ?_)
    refine q2_ist (ls' := [some (.ref 5), some (.ref p0), some (.int l2), some (.long l3), none, some (.int l5), some (.int l6), some (.int x19)]) o_Wy_note_40 (Nat.le_of_ble_eq_true rfl) rfl ?_
    refine q_aload_n o_Wy_note_42 rfl ?_
    refine q2_getR hs18 o_Wy_note_43 f_Wy_25 rfl (fz_5_4 hs18) ?_
    refine q_iload o_Wy_note_46 rfl ?_
    refine q_dup2 o_Wy_note_48 rfl rfl ?_
    obtain ⟨k21, eh20, bh20, h20⟩ := h16
    refine q2_iald hs18 o_Wy_note_49 rfl eh20 bh20 (by decide) ?_
    refine q_iload o_Wy_note_50 rfl ?_
    refine q_iadd o_Wy_note_52 ?_
    obtain ⟨k23, eh22, bh22, h22⟩ := h20
    refine q2_iast hs18 o_Wy_note_53 rfl eh22 bh22 (by decide) ?_
    refine q_iload o_Wy_note_54 rfl ?_
    refine q_iload o_Wy_note_56 rfl ?_
    have hJ : ∀ vJ : Int32, vJ = (if x19 < 0 then (0 : Int32) else (1 : Int32)) → q_At G X_Wy_note (d + 1) 0 0 66 [some (.ref 5), some (.ref p0), some (.int l2), some (.long l3), none, some (.int l5), some (.int l6), some (.int x19)] [.int vJ, .int l5] (q_setI σ17 10 k23 ((q_I σ17 10 k21) + x19)) Q := by
      intro vJ eJ
      rw [eJ]
      clear eJ vJ
      refine q_iadd o_Wy_note_66 ?_
      refine q2_ist (ls' := [some (.ref 5), some (.ref p0), some (.int l2), some (.long l3), none, some (.int (l5 + (if x19 < 0 then (0 : Int32) else (1 : Int32)))), some (.int l6), some (.int x19)]) o_Wy_note_67 (Nat.le_of_ble_eq_true rfl) rfl ?_
      refine q_iload_n o_Wy_note_69 rfl ?_
      refine q_aload_n o_Wy_note_70 rfl ?_
      refine q2_getR hs18 o_Wy_note_71 f_Wy_28 rfl (fz_5_5 hs18) ?_
      refine q_iload o_Wy_note_74 rfl ?_
      obtain ⟨k26, eh25, bh25, h25⟩ := h22
      refine q2_iald hs18 o_Wy_note_76 rfl eh25 bh25 (by decide) ?_
      refine q_iconst (v := 3) o_Wy_note_77 (by decide) ?_
      refine q_iload o_Wy_note_78 rfl ?_
      refine q_imul o_Wy_note_80 ?_
      refine q_ishl o_Wy_note_81 ?_
      refine q_ior o_Wy_note_82 ?_
      refine q2_istn (ls' := [some (.ref 5), some (.ref p0), some (.int (l2 ||| ((q_I (q_setI σ17 10 k23 ((q_I σ17 10 k21) + x19)) 11 k26) <<< ((3 * l6) &&& 31)))), some (.long l3), none, some (.int (l5 + (if x19 < 0 then (0 : Int32) else (1 : Int32)))), some (.int l6), some (.int x19)]) o_Wy_note_83 (Nat.le_of_ble_eq_true rfl) rfl ?_
      refine q_lload_n o_Wy_note_84 rfl ?_
      refine q_aload_n o_Wy_note_85 rfl ?_
      refine q_aload_n o_Wy_note_86 rfl ?_
      refine q2_getR hs18 o_Wy_note_87 f_Wy_28 rfl (fz_5_5 hs18) ?_
      refine q_iload o_Wy_note_90 rfl ?_
      refine q2_callVi _ (a := p0) (As := [.ref 11, .int l6]) (st := [.long l3]) hs18 o_Wy_note_92 k_Wy_60 (kd_Tw_0 hp0) rfl (Nat.le_of_ble_eq_true rfl) h25 (fun x30 σ28 hs29 h27 => ?_)
      refine q_i2l o_Wy_note_95 ?_
      refine q_bipush (v := 9) o_Wy_note_96 (by decide) ?_
      refine q_iload o_Wy_note_98 rfl ?_
      refine q_imul o_Wy_note_100 ?_
      refine q_lshl o_Wy_note_101 ?_
      refine q_lor o_Wy_note_102 ?_
      refine q2_lstn (ls' := [some (.ref 5), some (.ref p0), some (.int (l2 ||| ((q_I (q_setI σ17 10 k23 ((q_I σ17 10 k21) + x19)) 11 k26) <<< ((3 * l6) &&& 31)))), some (.long (l3 ||| (x30.toInt64 <<< ((9 * l6).toInt64 &&& 63)))), none, some (.int (l5 + (if x19 < 0 then (0 : Int32) else (1 : Int32)))), some (.int l6), some (.int x19)]) o_Wy_note_103 (Nat.le_of_ble_eq_true rfl) rfl ?_
      refine q2_inc (v := (l6 + 1)) (ls' := [some (.ref 5), some (.ref p0), some (.int (l2 ||| ((q_I (q_setI σ17 10 k23 ((q_I σ17 10 k21) + x19)) 11 k26) <<< ((3 * l6) &&& 31)))), some (.long (l3 ||| (x30.toInt64 <<< ((9 * l6).toInt64 &&& 63)))), none, some (.int (l5 + (if x19 < 0 then (0 : Int32) else (1 : Int32)))), some (.int (l6 + 1)), some (.int x19)]) o_Wy_note_104 rfl rfl (Nat.le_of_ble_eq_true rfl) rfl ?_
      refine q_goto o_Wy_note_107 ?_
      exact q_weak (ls' := [some (.ref 5), some (.ref p0), some (.int (l2 ||| ((q_I (q_setI σ17 10 k23 ((q_I σ17 10 k21) + x19)) 11 k26) <<< ((3 * l6) &&& 31)))), some (.long (l3 ||| (x30.toInt64 <<< ((9 * l6).toInt64 &&& 63)))), none, some (.int (l5 + (if x19 < 0 then (0 : Int32) else (1 : Int32)))), some (.int (l6 + 1)), none]) (And.intro rfl (And.intro rfl (And.intro rfl (And.intro rfl (And.intro rfl (And.intro rfl trivial)))))) h27
    refine q_if_lt o_Wy_note_58 (fun c24 => ?_) (fun c24 => ?_)
    · refine q_iconst (v := 0) o_Wy_note_65 (by decide) ?_
      exact hJ _ (Eq.symm (if_pos c24))
    · refine q_iconst (v := 1) o_Wy_note_61 (by decide) ?_
      refine q_goto o_Wy_note_62 ?_
      exact hJ _ (Eq.symm (if_neg c24))

set_option maxRecDepth 20000 in
theorem v_Wy_isWay_0 {G : q_G} {d : Nat} {σ : q_S} {Q : Option Value → q_S → Prop} {p0 : Int32}  (hs : q_Sh σ) (h : (narrow .boolean (.int (if p0 < 0 then (0 : Int32) else (if (q_I σ 5 7) ≤ p0 then (0 : Int32) else (1 : Int32)))) = .int (if p0 < 0 then (0 : Int32) else (if (q_I σ 5 7) ≤ p0 then (0 : Int32) else (1 : Int32))) ∧ Q (some (.int (if p0 < 0 then (0 : Int32) else (if (q_I σ 5 7) ≤ p0 then (0 : Int32) else (1 : Int32))))) σ)) : q_At G X_Wy_isWay d 0 0 0 [some (.ref 5), some (.int p0)] [] σ Q := by
  refine q_iload_n o_Wy_isWay_0 rfl ?_
  have hJ : ∀ vJ : Int32, vJ = (if p0 < 0 then (0 : Int32) else (if (q_I σ 5 7) ≤ p0 then (0 : Int32) else (1 : Int32))) → q_At G X_Wy_isWay d 0 0 17 [some (.ref 5), some (.int p0)] [.int vJ] σ Q := by
    intro vJ eJ
    rw [eJ]
    clear eJ vJ
    exact q_zre o_Wy_isWay_17 rfl h.1 h.2
  refine q_if_lt o_Wy_isWay_1 (fun c1 => ?_) (fun c1 => ?_)
  · refine q_iconst (v := 0) o_Wy_isWay_16 (by decide) ?_
    exact hJ _ (Eq.symm (if_pos c1))
  · refine q_iload_n o_Wy_isWay_4 rfl ?_
    refine q_aload_n o_Wy_isWay_5 rfl ?_
    refine q2_getI hs o_Wy_isWay_6 f_Wy_35 rfl ?_
    refine q_icmp_ge o_Wy_isWay_9 (fun c2 => ?_) (fun c2 => ?_)
    · refine q_iconst (v := 0) o_Wy_isWay_16 (by decide) ?_
      exact hJ _ (Eq.symm ((if_neg c1).trans (if_pos c2)))
    · refine q_iconst (v := 1) o_Wy_isWay_12 (by decide) ?_
      refine q_goto o_Wy_isWay_13 ?_
      exact hJ _ (Eq.symm ((if_neg c1).trans (if_neg c2)))

set_option maxRecDepth 20000 in
theorem v_Wy_houseOf_0 {G : q_G} {d : Nat} {σ : q_S} {Q : Option Value → q_S → Prop} {p0 : Int32} {p1 : Int32}  (hs : q_Sh σ) (h : q_Call G d 0 0 X_Wy_isWay [.ref 5, .int p0] σ (q_ri (fun x4 σ2 => ((x4 = 0 → Q (some (.int (-1))) σ2) ∧ (¬ x4 = 0 → (∃ k9, p0 = nI k9 ∧ k9 < 720 ∧ Q (some (.int (((q_I σ2 6 k9) >>> ((3 * p1) &&& 31)) &&& 7))) σ2)))))) : q_At G X_Wy_houseOf (d + 1) 0 0 0 [some (.ref 5), some (.int p0), some (.int p1)] [] σ Q := by
  refine q_aload_n o_Wy_houseOf_0 rfl ?_
  refine q_iload_n o_Wy_houseOf_1 rfl ?_
  refine q2_callVi _ (a := 5) (As := [.int p0]) (st := []) hs o_Wy_houseOf_2 k_Wy_67 rfl rfl (Nat.le_of_ble_eq_true rfl) h (fun x4 σ2 hs3 h1 => ?_)
  refine q_if_eq o_Wy_houseOf_5 (fun c5 => ?_) (fun c5 => ?_)
  · have h6 := h1.1 c5
    refine q_iconst (v := (-1)) o_Wy_houseOf_24 (by decide) ?_
    exact q_ire o_Wy_houseOf_25 rfl h6
  · have h7 := h1.2 c5
    refine q_aload_n o_Wy_houseOf_8 rfl ?_
    refine q2_getR hs3 o_Wy_houseOf_9 f_Wy_9 rfl (fz_5_0 hs3) ?_
    refine q_iload_n o_Wy_houseOf_12 rfl ?_
    obtain ⟨k9, eh8, bh8, h8⟩ := h7
    refine q2_iald hs3 o_Wy_houseOf_13 rfl eh8 bh8 (by decide) ?_
    refine q_iconst (v := 3) o_Wy_houseOf_14 (by decide) ?_
    refine q_iload_n o_Wy_houseOf_15 rfl ?_
    refine q_imul o_Wy_houseOf_16 ?_
    refine q_ishr o_Wy_houseOf_17 ?_
    refine q_bipush (v := 7) o_Wy_houseOf_18 (by decide) ?_
    refine q_iand o_Wy_houseOf_20 ?_
    refine q_goto o_Wy_houseOf_21 ?_
    exact q_ire o_Wy_houseOf_25 rfl h8

set_option maxRecDepth 20000 in
theorem v_Wy_feltBy_0 {G : q_G} {d : Nat} {σ : q_S} {Q : Option Value → q_S → Prop} {p0 : Int32} {p1 : Int32}  (hs : q_Sh σ) (h : q_Call G d 0 0 X_Wy_isWay [.ref 5, .int p0] σ (q_ri (fun x4 σ2 => ((x4 = 0 → Q (some (.int 0)) σ2) ∧ (¬ x4 = 0 → (∃ k9, p0 = nI k9 ∧ k9 < 720 ∧ Q (some (.int ((((q_L σ2 7 k9) >>> ((9 * p1).toInt64 &&& 63)) &&& 511).toInt32))) σ2)))))) : q_At G X_Wy_feltBy (d + 1) 0 0 0 [some (.ref 5), some (.int p0), some (.int p1)] [] σ Q := by
  refine q_aload_n o_Wy_feltBy_0 rfl ?_
  refine q_iload_n o_Wy_feltBy_1 rfl ?_
  refine q2_callVi _ (a := 5) (As := [.int p0]) (st := []) hs o_Wy_feltBy_2 k_Wy_67 rfl rfl (Nat.le_of_ble_eq_true rfl) h (fun x4 σ2 hs3 h1 => ?_)
  refine q_if_eq o_Wy_feltBy_5 (fun c5 => ?_) (fun c5 => ?_)
  · have h6 := h1.1 c5
    refine q_iconst (v := 0) o_Wy_feltBy_27 (by decide) ?_
    exact q_ire o_Wy_feltBy_28 rfl h6
  · have h7 := h1.2 c5
    refine q_aload_n o_Wy_feltBy_8 rfl ?_
    refine q2_getR hs3 o_Wy_feltBy_9 f_Wy_15 rfl (fz_5_1 hs3) ?_
    refine q_iload_n o_Wy_feltBy_12 rfl ?_
    obtain ⟨k9, eh8, bh8, h8⟩ := h7
    refine q2_lald hs3 o_Wy_feltBy_13 rfl eh8 bh8 (by decide) ?_
    refine q_bipush (v := 9) o_Wy_feltBy_14 (by decide) ?_
    refine q_iload_n o_Wy_feltBy_16 rfl ?_
    refine q_imul o_Wy_feltBy_17 ?_
    refine q_lshr o_Wy_feltBy_18 ?_
    refine q_ldc2 o_Wy_feltBy_19 n_Wy_71 ?_
    refine q_land o_Wy_feltBy_22 ?_
    refine q_l2i o_Wy_feltBy_23 ?_
    refine q_goto o_Wy_feltBy_24 ?_
    exact q_ire o_Wy_feltBy_28 rfl h8

set_option maxRecDepth 20000 in
theorem v_Wy_feltByAll_0 {G : q_G} {d : Nat} {σ : q_S} {Q : Option Value → q_S → Prop} {p0 : Int32}  (hs : q_Sh σ) (h : q_At G X_Wy_feltByAll (d + 1) 0 0 4 [some (.ref 5), some (.int p0), some (.int 0), some (.int 0)] [] σ Q) : q_At G X_Wy_feltByAll (d + 1) 0 0 0 [some (.ref 5), some (.int p0), none, none] [] σ Q := by
  refine q_iconst (v := 0) o_Wy_feltByAll_0 (by decide) ?_
  refine q2_istn (ls' := [some (.ref 5), some (.int p0), some (.int 0), none]) o_Wy_feltByAll_1 (Nat.le_of_ble_eq_true rfl) rfl ?_
  refine q_iconst (v := 0) o_Wy_feltByAll_2 (by decide) ?_
  refine q2_istn (ls' := [some (.ref 5), some (.int p0), some (.int 0), some (.int 0)]) o_Wy_feltByAll_3 (Nat.le_of_ble_eq_true rfl) rfl ?_
  exact h

set_option maxRecDepth 20000 in
theorem v_Wy_feltByAll_4 {G : q_G} {d : Nat} {σ : q_S} {Q : Option Value → q_S → Prop} {p0 : Int32} {l2 : Int32} {l3 : Int32}  (hs : q_Sh σ) (h : (((q_I σ 5 6) ≤ l3 → Q (some (.int l2)) σ) ∧ (¬ (q_I σ 5 6) ≤ l3 → q_Call G d 0 0 X_Wy_feltBy [.ref 5, .int p0, .int l3] σ (q_ri (fun x7 σ5 => q_At G X_Wy_feltByAll (d + 1) 0 0 4 [some (.ref 5), some (.int p0), some (.int (l2 + x7)), some (.int (l3 + 1))] [] σ5 Q))))) : q_At G X_Wy_feltByAll (d + 1) 0 0 4 [some (.ref 5), some (.int p0), some (.int l2), some (.int l3)] [] σ Q := by
  refine q_iload_n o_Wy_feltByAll_4 rfl ?_
  refine q_aload_n o_Wy_feltByAll_5 rfl ?_
  refine q2_getI hs o_Wy_feltByAll_6 f_Wy_44 rfl ?_
  refine q_icmp_ge o_Wy_feltByAll_9 (fun c1 => ?_) (fun c1 => ?_)
  · have h2 := h.1 c1
    refine q_iload_n o_Wy_feltByAll_27 rfl ?_
    exact q_ire o_Wy_feltByAll_28 rfl h2
  · have h3 := h.2 c1
    refine q_iload_n o_Wy_feltByAll_12 rfl ?_
    refine q_aload_n o_Wy_feltByAll_13 rfl ?_
    refine q_iload_n o_Wy_feltByAll_14 rfl ?_
    refine q_iload_n o_Wy_feltByAll_15 rfl ?_
    refine q2_callVi _ (a := 5) (As := [.int p0, .int l3]) (st := [.int l2]) hs o_Wy_feltByAll_16 k_Wy_73 rfl rfl (Nat.le_of_ble_eq_true rfl) h3 (fun x7 σ5 hs6 h4 => ?_)
    refine q_iadd o_Wy_feltByAll_19 ?_
    refine q2_istn (ls' := [some (.ref 5), some (.int p0), some (.int (l2 + x7)), some (.int l3)]) o_Wy_feltByAll_20 (Nat.le_of_ble_eq_true rfl) rfl ?_
    refine q2_inc (v := (l3 + 1)) (ls' := [some (.ref 5), some (.int p0), some (.int (l2 + x7)), some (.int (l3 + 1))]) o_Wy_feltByAll_21 rfl rfl (Nat.le_of_ble_eq_true rfl) rfl ?_
    refine q_goto o_Wy_feltByAll_24 ?_
    exact h4

set_option maxRecDepth 20000 in
theorem v_Wy_contentIn_0 {G : q_G} {d : Nat} {σ : q_S} {Q : Option Value → q_S → Prop} {p0 : Int32}  (hs : q_Sh σ) (h : q_Call G d 0 0 X_Wy_isWay [.ref 5, .int p0] σ (q_ri (fun x4 σ2 => ((x4 = 0 → Q (some (.int 0)) σ2) ∧ (¬ x4 = 0 → (∃ k9, p0 = nI k9 ∧ k9 < 720 ∧ Q (some (.int (q_I σ2 9 k9))) σ2)))))) : q_At G X_Wy_contentIn (d + 1) 0 0 0 [some (.ref 5), some (.int p0)] [] σ Q := by
  refine q_aload_n o_Wy_contentIn_0 rfl ?_
  refine q_iload_n o_Wy_contentIn_1 rfl ?_
  refine q2_callVi _ (a := 5) (As := [.int p0]) (st := []) hs o_Wy_contentIn_2 k_Wy_67 rfl rfl (Nat.le_of_ble_eq_true rfl) h (fun x4 σ2 hs3 h1 => ?_)
  refine q_if_eq o_Wy_contentIn_5 (fun c5 => ?_) (fun c5 => ?_)
  · have h6 := h1.1 c5
    refine q_iconst (v := 0) o_Wy_contentIn_17 (by decide) ?_
    exact q_ire o_Wy_contentIn_18 rfl h6
  · have h7 := h1.2 c5
    refine q_aload_n o_Wy_contentIn_8 rfl ?_
    refine q2_getR hs3 o_Wy_contentIn_9 f_Wy_22 rfl (fz_5_3 hs3) ?_
    refine q_iload_n o_Wy_contentIn_12 rfl ?_
    obtain ⟨k9, eh8, bh8, h8⟩ := h7
    refine q2_iald hs3 o_Wy_contentIn_13 rfl eh8 bh8 (by decide) ?_
    refine q_goto o_Wy_contentIn_14 ?_
    exact q_ire o_Wy_contentIn_18 rfl h8

set_option maxRecDepth 20000 in
theorem v_Wy_swapsTo_0 {G : q_G} {d : Nat} {σ : q_S} {Q : Option Value → q_S → Prop} {p0 : Int32} {p1 : Nat} {p2 : Nat} (hp1 : q_isTw p1) (hp2 : q_kd p2 = (1, 6)) (hs : q_Sh σ) (h : q_At G X_Wy_swapsTo (d + 1) 0 0 6 [some (.ref 5), some (.int p0), some (.ref p1), some (.ref p2), some (.int 0), some (.int 0)] [] σ Q) : q_At G X_Wy_swapsTo (d + 1) 0 0 0 [some (.ref 5), some (.int p0), some (.ref p1), some (.ref p2), none, none] [] σ Q := by
  refine q_iconst (v := 0) o_Wy_swapsTo_0 (by decide) ?_
  refine q2_ist (ls' := [some (.ref 5), some (.int p0), some (.ref p1), some (.ref p2), some (.int 0), none]) o_Wy_swapsTo_1 (Nat.le_of_ble_eq_true rfl) rfl ?_
  refine q_iconst (v := 0) o_Wy_swapsTo_3 (by decide) ?_
  refine q2_ist (ls' := [some (.ref 5), some (.int p0), some (.ref p1), some (.ref p2), some (.int 0), some (.int 0)]) o_Wy_swapsTo_4 (Nat.le_of_ble_eq_true rfl) rfl ?_
  exact h

set_option maxRecDepth 20000 in
theorem v_Wy_swapsTo_6 {G : q_G} {d : Nat} {σ : q_S} {Q : Option Value → q_S → Prop} {p0 : Int32} {p1 : Nat} {p2 : Nat} {l4 : Int32} {l5 : Int32} (hp2 : q_kd p2 = (1, 6)) (hs : q_Sh σ) (h : (((q_I σ 5 6) ≤ l5 → Q (some (.int l4)) σ) ∧ (¬ (q_I σ 5 6) ≤ l5 → q_Call G d 0 0 X_Wy_houseOf [.ref 5, .int p0, .int l5] σ (q_ri (fun x7 σ5 => (∃ k9, l5 = nI k9 ∧ k9 < 6 ∧ ((x7 = (q_I σ5 p2 k9) → q_At G X_Wy_swapsTo (d + 1) 0 0 6 [some (.ref 5), some (.int p0), some (.ref p1), some (.ref p2), some (.int l4), some (.int (l5 + 1))] [] σ5 Q) ∧ (¬ x7 = (q_I σ5 p2 k9) → q_Call G d 0 0 X_Wy_leadsRing [.ref 5, .int p0, .ref p1, .ref p2, .int l5] σ5 (q_ri (fun x16 σ14 => ((¬ x16 = 0 → q_At G X_Wy_swapsTo (d + 1) 0 0 6 [some (.ref 5), some (.int p0), some (.ref p1), some (.ref p2), some (.int l4), some (.int (l5 + 1))] [] σ14 Q) ∧ (x16 = 0 → q_At G X_Wy_swapsTo (d + 1) 0 0 6 [some (.ref 5), some (.int p0), some (.ref p1), some (.ref p2), some (.int (l4 + 1)), some (.int (l5 + 1))] [] σ14 Q)))))))))))) : q_At G X_Wy_swapsTo (d + 1) 0 0 6 [some (.ref 5), some (.int p0), some (.ref p1), some (.ref p2), some (.int l4), some (.int l5)] [] σ Q := by
  refine q_iload o_Wy_swapsTo_6 rfl ?_
  refine q_aload_n o_Wy_swapsTo_8 rfl ?_
  refine q2_getI hs o_Wy_swapsTo_9 f_Wy_44 rfl ?_
  refine q_icmp_ge o_Wy_swapsTo_12 (fun c1 => ?_) (fun c1 => ?_)
  · have h2 := h.1 c1
    refine q_iload o_Wy_swapsTo_50 rfl ?_
    exact q_ire o_Wy_swapsTo_52 rfl h2
  · have h3 := h.2 c1
    refine q_aload_n o_Wy_swapsTo_15 rfl ?_
    refine q_iload_n o_Wy_swapsTo_16 rfl ?_
    refine q_iload o_Wy_swapsTo_17 rfl ?_
    refine q2_callVi _ (a := 5) (As := [.int p0, .int l5]) (st := []) hs o_Wy_swapsTo_19 k_Wy_76 rfl rfl (Nat.le_of_ble_eq_true rfl) h3 (fun x7 σ5 hs6 h4 => ?_)
    refine q_aload_n o_Wy_swapsTo_22 rfl ?_
    refine q_iload o_Wy_swapsTo_23 rfl ?_
    obtain ⟨k9, eh8, bh8, h8⟩ := h4
    refine q2_iald hs6 o_Wy_swapsTo_25 hp2 eh8 bh8 (by decide) ?_
    refine q_icmp_eq o_Wy_swapsTo_26 (fun c10 => ?_) (fun c10 => ?_)
    · have h11 := h8.1 c10
      refine q2_inc (v := (l5 + 1)) (ls' := [some (.ref 5), some (.int p0), some (.ref p1), some (.ref p2), some (.int l4), some (.int (l5 + 1))]) o_Wy_swapsTo_44 rfl rfl (Nat.le_of_ble_eq_true rfl) rfl ?_
      refine q_goto o_Wy_swapsTo_47 ?_
      exact h11
    · have h12 := h8.2 c10
      refine q_aload_n o_Wy_swapsTo_29 rfl ?_
      refine q_iload_n o_Wy_swapsTo_30 rfl ?_
      refine q_aload_n o_Wy_swapsTo_31 rfl ?_
      refine q_aload_n o_Wy_swapsTo_32 rfl ?_
      refine q_iload o_Wy_swapsTo_33 rfl ?_
      refine q2_callVi _ (a := 5) (As := [.int p0, .ref p1, .ref p2, .int l5]) (st := []) hs6 o_Wy_swapsTo_35 k_Wy_79 rfl rfl (Nat.le_of_ble_eq_true rfl) h12 (fun x16 σ14 hs15 h13 => ?_)
      refine q_if_ne o_Wy_swapsTo_38 (fun c17 => ?_) (fun c17 => ?_)
      · have h18 := h13.1 c17
        refine q2_inc (v := (l5 + 1)) (ls' := [some (.ref 5), some (.int p0), some (.ref p1), some (.ref p2), some (.int l4), some (.int (l5 + 1))]) o_Wy_swapsTo_44 rfl rfl (Nat.le_of_ble_eq_true rfl) rfl ?_
        refine q_goto o_Wy_swapsTo_47 ?_
        exact h18
      · have h19 := h13.2 c17
        refine q2_inc (v := (l4 + 1)) (ls' := [some (.ref 5), some (.int p0), some (.ref p1), some (.ref p2), some (.int (l4 + 1)), some (.int l5)]) o_Wy_swapsTo_41 rfl rfl (Nat.le_of_ble_eq_true rfl) rfl ?_
        refine q2_inc (v := (l5 + 1)) (ls' := [some (.ref 5), some (.int p0), some (.ref p1), some (.ref p2), some (.int (l4 + 1)), some (.int (l5 + 1))]) o_Wy_swapsTo_44 rfl rfl (Nat.le_of_ble_eq_true rfl) rfl ?_
        refine q_goto o_Wy_swapsTo_47 ?_
        exact h19

set_option maxRecDepth 20000 in
theorem v_Wy_leadsRing_0 {G : q_G} {d : Nat} {σ : q_S} {Q : Option Value → q_S → Prop} {p0 : Int32} {p1 : Nat} {p2 : Nat} {p3 : Int32} (hp1 : q_isTw p1) (hp2 : q_kd p2 = (1, 6)) (hs : q_Sh σ) (h : q_At G X_Wy_leadsRing (d + 1) 0 0 7 [some (.ref 5), some (.int p0), some (.ref p1), some (.ref p2), some (.int p3), some (.int p3), some (.int 0)] [] σ Q) : q_At G X_Wy_leadsRing (d + 1) 0 0 0 [some (.ref 5), some (.int p0), some (.ref p1), some (.ref p2), some (.int p3), none, none] [] σ Q := by
  refine q_iload o_Wy_leadsRing_0 rfl ?_
  refine q2_ist (ls' := [some (.ref 5), some (.int p0), some (.ref p1), some (.ref p2), some (.int p3), some (.int p3), none]) o_Wy_leadsRing_2 (Nat.le_of_ble_eq_true rfl) rfl ?_
  refine q_iconst (v := 0) o_Wy_leadsRing_4 (by decide) ?_
  refine q2_ist (ls' := [some (.ref 5), some (.int p0), some (.ref p1), some (.ref p2), some (.int p3), some (.int p3), some (.int 0)]) o_Wy_leadsRing_5 (Nat.le_of_ble_eq_true rfl) rfl ?_
  exact h

set_option maxRecDepth 20000 in
theorem v_Wy_leadsRing_7 {G : q_G} {d : Nat} {σ : q_S} {Q : Option Value → q_S → Prop} {p0 : Int32} {p1 : Nat} {p2 : Nat} {p3 : Int32} {l5 : Int32} {l6 : Int32} (hp1 : q_isTw p1) (hs : q_Sh σ) (h : (((q_I σ 5 6) ≤ l6 → Q (some (.int 0)) σ) ∧ (¬ (q_I σ 5 6) ≤ l6 → q_Call G d 0 0 X_Wy_houseOf [.ref 5, .int p0, .int l5] σ (q_ri (fun x7 σ5 => q_Call G d 0 0 X_Tw_familyIn [.ref p1, .ref p2, .int x7] σ5 (q_ri (fun x11 σ9 => ((p3 < x11 → q_At G X_Wy_leadsRing (d + 1) 0 0 7 [some (.ref 5), some (.int p0), some (.ref p1), some (.ref p2), some (.int p3), some (.int x11), some (.int (l6 + 1))] [] σ9 Q) ∧ (¬ p3 < x11 → (narrow .boolean (.int (if x11 = p3 then (1 : Int32) else (0 : Int32))) = .int (if x11 = p3 then (1 : Int32) else (0 : Int32)) ∧ Q (some (.int (if x11 = p3 then (1 : Int32) else (0 : Int32)))) σ9)))))))))) : q_At G X_Wy_leadsRing (d + 1) 0 0 7 [some (.ref 5), some (.int p0), some (.ref p1), some (.ref p2), some (.int p3), some (.int l5), some (.int l6)] [] σ Q := by
  refine q_iload o_Wy_leadsRing_7 rfl ?_
  refine q_aload_n o_Wy_leadsRing_9 rfl ?_
  refine q2_getI hs o_Wy_leadsRing_10 f_Wy_44 rfl ?_
  refine q_icmp_ge o_Wy_leadsRing_13 (fun c1 => ?_) (fun c1 => ?_)
  · have h2 := h.1 c1
    refine q_iconst (v := 0) o_Wy_leadsRing_56 (by decide) ?_
    exact q_zre o_Wy_leadsRing_57 rfl rfl h2
  · have h3 := h.2 c1
    refine q_aload_n o_Wy_leadsRing_16 rfl ?_
    refine q_aload_n o_Wy_leadsRing_17 rfl ?_
    refine q_aload_n o_Wy_leadsRing_18 rfl ?_
    refine q_iload_n o_Wy_leadsRing_19 rfl ?_
    refine q_iload o_Wy_leadsRing_20 rfl ?_
    refine q2_callVi _ (a := 5) (As := [.int p0, .int l5]) (st := [.ref p2, .ref p1]) hs o_Wy_leadsRing_22 k_Wy_76 rfl rfl (Nat.le_of_ble_eq_true rfl) h3 (fun x7 σ5 hs6 h4 => ?_)
    refine q2_callVi _ (a := p1) (As := [.ref p2, .int x7]) (st := []) hs6 o_Wy_leadsRing_25 k_Wy_83 (kd_Tw_0 hp1) rfl (Nat.le_of_ble_eq_true rfl) h4 (fun x11 σ9 hs10 h8 => ?_)
    refine q2_ist (ls' := [some (.ref 5), some (.int p0), some (.ref p1), some (.ref p2), some (.int p3), some (.int x11), some (.int l6)]) o_Wy_leadsRing_28 (Nat.le_of_ble_eq_true rfl) rfl ?_
    refine q_iload o_Wy_leadsRing_30 rfl ?_
    refine q_iload o_Wy_leadsRing_32 rfl ?_
    refine q_icmp_gt o_Wy_leadsRing_34 (fun c12 => ?_) (fun c12 => ?_)
    · have h13 := h8.1 c12
      refine q2_inc (v := (l6 + 1)) (ls' := [some (.ref 5), some (.int p0), some (.ref p1), some (.ref p2), some (.int p3), some (.int x11), some (.int (l6 + 1))]) o_Wy_leadsRing_50 rfl rfl (Nat.le_of_ble_eq_true rfl) rfl ?_
      refine q_goto o_Wy_leadsRing_53 ?_
      exact h13
    · have h14 := h8.2 c12
      refine q_iload o_Wy_leadsRing_37 rfl ?_
      refine q_iload o_Wy_leadsRing_39 rfl ?_
      have hJ : ∀ vJ : Int32, vJ = (if x11 = p3 then (1 : Int32) else (0 : Int32)) → q_At G X_Wy_leadsRing (d + 1) 0 0 49 [some (.ref 5), some (.int p0), some (.ref p1), some (.ref p2), some (.int p3), some (.int x11), some (.int l6)] [.int vJ] σ9 Q := by
        intro vJ eJ
        rw [eJ]
        clear eJ vJ
        exact q_zre o_Wy_leadsRing_49 rfl h14.1 h14.2
      refine q_icmp_ne o_Wy_leadsRing_41 (fun c15 => ?_) (fun c15 => ?_)
      · refine q_iconst (v := 0) o_Wy_leadsRing_48 (by decide) ?_
        exact hJ _ (Eq.symm (if_neg c15))
      · refine q_iconst (v := 1) o_Wy_leadsRing_44 (by decide) ?_
        refine q_goto o_Wy_leadsRing_45 ?_
        exact hJ _ (Eq.symm (if_pos c15))

set_option maxRecDepth 20000 in
theorem v_Wy_firstMending_0 {G : q_G} {d : Nat} {σ : q_S} {Q : Option Value → q_S → Prop} {p0 : Nat} {p1 : Nat} (hp0 : q_isTw p0) (hp1 : q_kd p1 = (1, 6)) (hs : q_Sh σ) (h : q_At G X_Wy_firstMending (d + 1) 0 0 8 [some (.ref 5), some (.ref p0), some (.ref p1), some (.int (-1)), some (.int 0), some (.int 0), none] [] σ Q) : q_At G X_Wy_firstMending (d + 1) 0 0 0 [some (.ref 5), some (.ref p0), some (.ref p1), none, none, none, none] [] σ Q := by
  refine q_iconst (v := (-1)) o_Wy_firstMending_0 (by decide) ?_
  refine q2_istn (ls' := [some (.ref 5), some (.ref p0), some (.ref p1), some (.int (-1)), none, none, none]) o_Wy_firstMending_1 (Nat.le_of_ble_eq_true rfl) rfl ?_
  refine q_iconst (v := 0) o_Wy_firstMending_2 (by decide) ?_
  refine q2_ist (ls' := [some (.ref 5), some (.ref p0), some (.ref p1), some (.int (-1)), some (.int 0), none, none]) o_Wy_firstMending_3 (Nat.le_of_ble_eq_true rfl) rfl ?_
  refine q_iconst (v := 0) o_Wy_firstMending_5 (by decide) ?_
  refine q2_ist (ls' := [some (.ref 5), some (.ref p0), some (.ref p1), some (.int (-1)), some (.int 0), some (.int 0), none]) o_Wy_firstMending_6 (Nat.le_of_ble_eq_true rfl) rfl ?_
  exact h

set_option maxRecDepth 20000 in
theorem v_Wy_firstMending_8 {G : q_G} {d : Nat} {σ : q_S} {Q : Option Value → q_S → Prop} {p0 : Nat} {p1 : Nat} {l3 : Int32} {l4 : Int32} {l5 : Int32} (hp0 : q_isTw p0) (hs : q_Sh σ) (h : (((q_I σ 5 7) ≤ l5 → Q (some (.int l3)) σ) ∧ (¬ (q_I σ 5 7) ≤ l5 → (∃ k5, l5 = nI k5 ∧ k5 < 720 ∧ q_Call G d 0 0 X_Tw_brokenBy [.ref p0, .long (q_L σ 8 k5)] σ (q_ri (fun x9 σ7 => ((¬ x9 = 0 → q_At G X_Wy_firstMending (d + 1) 0 0 8 [some (.ref 5), some (.ref p0), some (.ref p1), some (.int l3), some (.int l4), some (.int (l5 + 1)), none] [] σ7 Q) ∧ (x9 = 0 → q_Call G d 0 0 X_Wy_swapsTo [.ref 5, .int l5, .ref p0, .ref p1] σ7 (q_ri (fun x16 σ14 => ((l3 = (-1) → q_At G X_Wy_firstMending (d + 1) 0 0 8 [some (.ref 5), some (.ref p0), some (.ref p1), some (.int l5), some (.int x16), some (.int (l5 + 1)), none] [] σ14 Q) ∧ (¬ l3 = (-1) → ((l4 ≤ x16 → q_At G X_Wy_firstMending (d + 1) 0 0 8 [some (.ref 5), some (.ref p0), some (.ref p1), some (.int l3), some (.int l4), some (.int (l5 + 1)), none] [] σ14 Q) ∧ (¬ l4 ≤ x16 → q_At G X_Wy_firstMending (d + 1) 0 0 8 [some (.ref 5), some (.ref p0), some (.ref p1), some (.int l5), some (.int x16), some (.int (l5 + 1)), none] [] σ14 Q)))))))))))))) : q_At G X_Wy_firstMending (d + 1) 0 0 8 [some (.ref 5), some (.ref p0), some (.ref p1), some (.int l3), some (.int l4), some (.int l5), none] [] σ Q := by
  refine q_iload o_Wy_firstMending_8 rfl ?_
  refine q_aload_n o_Wy_firstMending_10 rfl ?_
  refine q2_getI hs o_Wy_firstMending_11 f_Wy_35 rfl ?_
  refine q_icmp_ge o_Wy_firstMending_14 (fun c1 => ?_) (fun c1 => ?_)
  · have h2 := h.1 c1
    refine q_iload_n o_Wy_firstMending_66 rfl ?_
    exact q_ire o_Wy_firstMending_67 rfl h2
  · have h3 := h.2 c1
    refine q_aload_n o_Wy_firstMending_17 rfl ?_
    refine q_aload_n o_Wy_firstMending_18 rfl ?_
    refine q2_getR hs o_Wy_firstMending_19 f_Wy_19 rfl (fz_5_2 hs) ?_
    refine q_iload o_Wy_firstMending_22 rfl ?_
    obtain ⟨k5, eh4, bh4, h4⟩ := h3
    refine q2_lald hs o_Wy_firstMending_24 rfl eh4 bh4 (by decide) ?_
    refine q2_callVi _ (a := p0) (As := [.long (q_L σ 8 k5)]) (st := []) hs o_Wy_firstMending_25 k_Wy_86 (kd_Tw_0 hp0) rfl (Nat.le_of_ble_eq_true rfl) h4 (fun x9 σ7 hs8 h6 => ?_)
    refine q_if_ne o_Wy_firstMending_28 (fun c10 => ?_) (fun c10 => ?_)
    · have h11 := h6.1 c10
      refine q2_inc (v := (l5 + 1)) (ls' := [some (.ref 5), some (.ref p0), some (.ref p1), some (.int l3), some (.int l4), some (.int (l5 + 1)), none]) o_Wy_firstMending_60 rfl rfl (Nat.le_of_ble_eq_true rfl) rfl ?_
      refine q_goto o_Wy_firstMending_63 ?_
      exact h11
    · have h12 := h6.2 c10
      refine q_aload_n o_Wy_firstMending_31 rfl ?_
      refine q_iload o_Wy_firstMending_32 rfl ?_
      refine q_aload_n o_Wy_firstMending_34 rfl ?_
      refine q_aload_n o_Wy_firstMending_35 rfl ?_
      refine q2_callVi _ (a := 5) (As := [.int l5, .ref p0, .ref p1]) (st := []) hs8 o_Wy_firstMending_36 k_Wy_90 rfl rfl (Nat.le_of_ble_eq_true rfl) h12 (fun x16 σ14 hs15 h13 => ?_)
      refine q2_ist (ls' := [some (.ref 5), some (.ref p0), some (.ref p1), some (.int l3), some (.int l4), some (.int l5), some (.int x16)]) o_Wy_firstMending_39 (Nat.le_of_ble_eq_true rfl) rfl ?_
      refine q_iload_n o_Wy_firstMending_41 rfl ?_
      refine q_iconst (v := (-1)) o_Wy_firstMending_42 (by decide) ?_
      refine q_icmp_eq o_Wy_firstMending_43 (fun c17 => ?_) (fun c17 => ?_)
      · have h18 := h13.1 c17
        refine q_iload o_Wy_firstMending_53 rfl ?_
        refine q2_istn (ls' := [some (.ref 5), some (.ref p0), some (.ref p1), some (.int l5), some (.int l4), some (.int l5), some (.int x16)]) o_Wy_firstMending_55 (Nat.le_of_ble_eq_true rfl) rfl ?_
        refine q_iload o_Wy_firstMending_56 rfl ?_
        refine q2_ist (ls' := [some (.ref 5), some (.ref p0), some (.ref p1), some (.int l5), some (.int x16), some (.int l5), some (.int x16)]) o_Wy_firstMending_58 (Nat.le_of_ble_eq_true rfl) rfl ?_
        refine q2_inc (v := (l5 + 1)) (ls' := [some (.ref 5), some (.ref p0), some (.ref p1), some (.int l5), some (.int x16), some (.int (l5 + 1)), some (.int x16)]) o_Wy_firstMending_60 rfl rfl (Nat.le_of_ble_eq_true rfl) rfl ?_
        refine q_goto o_Wy_firstMending_63 ?_
        exact q_weak (ls' := [some (.ref 5), some (.ref p0), some (.ref p1), some (.int l5), some (.int x16), some (.int (l5 + 1)), none]) (And.intro rfl (And.intro rfl (And.intro rfl (And.intro rfl (And.intro rfl (And.intro rfl trivial)))))) h18
      · have h19 := h13.2 c17
        refine q_iload o_Wy_firstMending_46 rfl ?_
        refine q_iload o_Wy_firstMending_48 rfl ?_
        refine q_icmp_ge o_Wy_firstMending_50 (fun c20 => ?_) (fun c20 => ?_)
        · have h21 := h19.1 c20
          refine q2_inc (v := (l5 + 1)) (ls' := [some (.ref 5), some (.ref p0), some (.ref p1), some (.int l3), some (.int l4), some (.int (l5 + 1)), some (.int x16)]) o_Wy_firstMending_60 rfl rfl (Nat.le_of_ble_eq_true rfl) rfl ?_
          refine q_goto o_Wy_firstMending_63 ?_
          exact q_weak (ls' := [some (.ref 5), some (.ref p0), some (.ref p1), some (.int l3), some (.int l4), some (.int (l5 + 1)), none]) (And.intro rfl (And.intro rfl (And.intro rfl (And.intro rfl (And.intro rfl (And.intro rfl trivial)))))) h21
        · have h22 := h19.2 c20
          refine q_iload o_Wy_firstMending_53 rfl ?_
          refine q2_istn (ls' := [some (.ref 5), some (.ref p0), some (.ref p1), some (.int l5), some (.int l4), some (.int l5), some (.int x16)]) o_Wy_firstMending_55 (Nat.le_of_ble_eq_true rfl) rfl ?_
          refine q_iload o_Wy_firstMending_56 rfl ?_
          refine q2_ist (ls' := [some (.ref 5), some (.ref p0), some (.ref p1), some (.int l5), some (.int x16), some (.int l5), some (.int x16)]) o_Wy_firstMending_58 (Nat.le_of_ble_eq_true rfl) rfl ?_
          refine q2_inc (v := (l5 + 1)) (ls' := [some (.ref 5), some (.ref p0), some (.ref p1), some (.int l5), some (.int x16), some (.int (l5 + 1)), some (.int x16)]) o_Wy_firstMending_60 rfl rfl (Nat.le_of_ble_eq_true rfl) rfl ?_
          refine q_goto o_Wy_firstMending_63 ?_
          exact q_weak (ls' := [some (.ref 5), some (.ref p0), some (.ref p1), some (.int l5), some (.int x16), some (.int (l5 + 1)), none]) (And.intro rfl (And.intro rfl (And.intro rfl (And.intro rfl (And.intro rfl (And.intro rfl trivial)))))) h22

set_option maxRecDepth 20000 in
theorem v_Wy_firstPleasing_0 {G : q_G} {d : Nat} {σ : q_S} {Q : Option Value → q_S → Prop} {p0 : Nat} {p1 : Nat} (hp0 : q_isTw p0) (hp1 : q_kd p1 = (1, 6)) (hs : q_Sh σ) (h : q_At G X_Wy_firstPleasing (d + 1) 0 0 8 [some (.ref 5), some (.ref p0), some (.ref p1), some (.int (-1)), some (.int 0), some (.int 0), none, none] [] σ Q) : q_At G X_Wy_firstPleasing (d + 1) 0 0 0 [some (.ref 5), some (.ref p0), some (.ref p1), none, none, none, none, none] [] σ Q := by
  refine q_iconst (v := (-1)) o_Wy_firstPleasing_0 (by decide) ?_
  refine q2_istn (ls' := [some (.ref 5), some (.ref p0), some (.ref p1), some (.int (-1)), none, none, none, none]) o_Wy_firstPleasing_1 (Nat.le_of_ble_eq_true rfl) rfl ?_
  refine q_iconst (v := 0) o_Wy_firstPleasing_2 (by decide) ?_
  refine q2_ist (ls' := [some (.ref 5), some (.ref p0), some (.ref p1), some (.int (-1)), some (.int 0), none, none, none]) o_Wy_firstPleasing_3 (Nat.le_of_ble_eq_true rfl) rfl ?_
  refine q_iconst (v := 0) o_Wy_firstPleasing_5 (by decide) ?_
  refine q2_ist (ls' := [some (.ref 5), some (.ref p0), some (.ref p1), some (.int (-1)), some (.int 0), some (.int 0), none, none]) o_Wy_firstPleasing_6 (Nat.le_of_ble_eq_true rfl) rfl ?_
  exact h

set_option maxRecDepth 20000 in
theorem v_Wy_firstPleasing_8 {G : q_G} {d : Nat} {σ : q_S} {Q : Option Value → q_S → Prop} {p0 : Nat} {p1 : Nat} {l3 : Int32} {l4 : Int32} {l5 : Int32}  (hs : q_Sh σ) (h : (((q_I σ 5 7) ≤ l5 → Q (some (.int l3)) σ) ∧ (¬ (q_I σ 5 7) ≤ l5 → (∃ k5, l5 = nI k5 ∧ k5 < 720 ∧ q_Call G d 0 0 X_Wy_contentIn [.ref 5, .int l3] σ (q_ri (fun x9 σ7 => ((l3 = (-1) → q_Call G d 0 0 X_Wy_swapsTo [.ref 5, .int l5, .ref p0, .ref p1] σ7 (q_ri (fun x15 σ13 => ((l3 = (-1) → q_At G X_Wy_firstPleasing (d + 1) 0 0 8 [some (.ref 5), some (.ref p0), some (.ref p1), some (.int l5), some (.int x15), some (.int (l5 + 1)), none, none] [] σ13 Q) ∧ (¬ l3 = (-1) → ((0 < ((q_I σ 9 k5) - x9) → q_At G X_Wy_firstPleasing (d + 1) 0 0 8 [some (.ref 5), some (.ref p0), some (.ref p1), some (.int l5), some (.int x15), some (.int (l5 + 1)), none, none] [] σ13 Q) ∧ (¬ 0 < ((q_I σ 9 k5) - x9) → ((l4 ≤ x15 → q_At G X_Wy_firstPleasing (d + 1) 0 0 8 [some (.ref 5), some (.ref p0), some (.ref p1), some (.int l3), some (.int l4), some (.int (l5 + 1)), none, none] [] σ13 Q) ∧ (¬ l4 ≤ x15 → q_At G X_Wy_firstPleasing (d + 1) 0 0 8 [some (.ref 5), some (.ref p0), some (.ref p1), some (.int l5), some (.int x15), some (.int (l5 + 1)), none, none] [] σ13 Q))))))))) ∧ (¬ l3 = (-1) → ((((q_I σ 9 k5) - x9) < 0 → q_At G X_Wy_firstPleasing (d + 1) 0 0 8 [some (.ref 5), some (.ref p0), some (.ref p1), some (.int l3), some (.int l4), some (.int (l5 + 1)), none, none] [] σ7 Q) ∧ (¬ ((q_I σ 9 k5) - x9) < 0 → q_Call G d 0 0 X_Wy_swapsTo [.ref 5, .int l5, .ref p0, .ref p1] σ7 (q_ri (fun x32 σ30 => ((l3 = (-1) → q_At G X_Wy_firstPleasing (d + 1) 0 0 8 [some (.ref 5), some (.ref p0), some (.ref p1), some (.int l5), some (.int x32), some (.int (l5 + 1)), none, none] [] σ30 Q) ∧ (¬ l3 = (-1) → ((0 < ((q_I σ 9 k5) - x9) → q_At G X_Wy_firstPleasing (d + 1) 0 0 8 [some (.ref 5), some (.ref p0), some (.ref p1), some (.int l5), some (.int x32), some (.int (l5 + 1)), none, none] [] σ30 Q) ∧ (¬ 0 < ((q_I σ 9 k5) - x9) → ((l4 ≤ x32 → q_At G X_Wy_firstPleasing (d + 1) 0 0 8 [some (.ref 5), some (.ref p0), some (.ref p1), some (.int l3), some (.int l4), some (.int (l5 + 1)), none, none] [] σ30 Q) ∧ (¬ l4 ≤ x32 → q_At G X_Wy_firstPleasing (d + 1) 0 0 8 [some (.ref 5), some (.ref p0), some (.ref p1), some (.int l5), some (.int x32), some (.int (l5 + 1)), none, none] [] σ30 Q)))))))))))))))))) : q_At G X_Wy_firstPleasing (d + 1) 0 0 8 [some (.ref 5), some (.ref p0), some (.ref p1), some (.int l3), some (.int l4), some (.int l5), none, none] [] σ Q := by
  refine q_iload o_Wy_firstPleasing_8 rfl ?_
  refine q_aload_n o_Wy_firstPleasing_10 rfl ?_
  refine q2_getI hs o_Wy_firstPleasing_11 f_Wy_35 rfl ?_
  refine q_icmp_ge o_Wy_firstPleasing_14 (fun c1 => ?_) (fun c1 => ?_)
  · have h2 := h.1 c1
    refine q_iload_n o_Wy_firstPleasing_82 rfl ?_
    exact q_ire o_Wy_firstPleasing_83 rfl h2
  · have h3 := h.2 c1
    refine q_aload_n o_Wy_firstPleasing_17 rfl ?_
    refine q2_getR hs o_Wy_firstPleasing_18 f_Wy_22 rfl (fz_5_3 hs) ?_
    refine q_iload o_Wy_firstPleasing_21 rfl ?_
    obtain ⟨k5, eh4, bh4, h4⟩ := h3
    refine q2_iald hs o_Wy_firstPleasing_23 rfl eh4 bh4 (by decide) ?_
    refine q_aload_n o_Wy_firstPleasing_24 rfl ?_
    refine q_iload_n o_Wy_firstPleasing_25 rfl ?_
    refine q2_callVi _ (a := 5) (As := [.int l3]) (st := [.int (q_I σ 9 k5)]) hs o_Wy_firstPleasing_26 k_Wy_94 rfl rfl (Nat.le_of_ble_eq_true rfl) h4 (fun x9 σ7 hs8 h6 => ?_)
    refine q_isub o_Wy_firstPleasing_29 ?_
    refine q2_ist (ls' := [some (.ref 5), some (.ref p0), some (.ref p1), some (.int l3), some (.int l4), some (.int l5), some (.int ((q_I σ 9 k5) - x9)), none]) o_Wy_firstPleasing_30 (Nat.le_of_ble_eq_true rfl) rfl ?_
    refine q_iload_n o_Wy_firstPleasing_32 rfl ?_
    refine q_iconst (v := (-1)) o_Wy_firstPleasing_33 (by decide) ?_
    refine q_icmp_eq o_Wy_firstPleasing_34 (fun c10 => ?_) (fun c10 => ?_)
    · have h11 := h6.1 c10
      refine q_aload_n o_Wy_firstPleasing_42 rfl ?_
      refine q_iload o_Wy_firstPleasing_43 rfl ?_
      refine q_aload_n o_Wy_firstPleasing_45 rfl ?_
      refine q_aload_n o_Wy_firstPleasing_46 rfl ?_
      refine q2_callVi _ (a := 5) (As := [.int l5, .ref p0, .ref p1]) (st := []) hs8 o_Wy_firstPleasing_47 k_Wy_90 rfl rfl (Nat.le_of_ble_eq_true rfl) h11 (fun x15 σ13 hs14 h12 => ?_)
      refine q2_ist (ls' := [some (.ref 5), some (.ref p0), some (.ref p1), some (.int l3), some (.int l4), some (.int l5), some (.int ((q_I σ 9 k5) - x9)), some (.int x15)]) o_Wy_firstPleasing_50 (Nat.le_of_ble_eq_true rfl) rfl ?_
      refine q_iload_n o_Wy_firstPleasing_52 rfl ?_
      refine q_iconst (v := (-1)) o_Wy_firstPleasing_53 (by decide) ?_
      refine q_icmp_eq o_Wy_firstPleasing_54 (fun c16 => ?_) (fun c16 => ?_)
      · have h17 := h12.1 c16
        refine q_iload o_Wy_firstPleasing_69 rfl ?_
        refine q2_istn (ls' := [some (.ref 5), some (.ref p0), some (.ref p1), some (.int l5), some (.int l4), some (.int l5), some (.int ((q_I σ 9 k5) - x9)), some (.int x15)]) o_Wy_firstPleasing_71 (Nat.le_of_ble_eq_true rfl) rfl ?_
        refine q_iload o_Wy_firstPleasing_72 rfl ?_
        refine q2_ist (ls' := [some (.ref 5), some (.ref p0), some (.ref p1), some (.int l5), some (.int x15), some (.int l5), some (.int ((q_I σ 9 k5) - x9)), some (.int x15)]) o_Wy_firstPleasing_74 (Nat.le_of_ble_eq_true rfl) rfl ?_
        refine q2_inc (v := (l5 + 1)) (ls' := [some (.ref 5), some (.ref p0), some (.ref p1), some (.int l5), some (.int x15), some (.int (l5 + 1)), some (.int ((q_I σ 9 k5) - x9)), some (.int x15)]) o_Wy_firstPleasing_76 rfl rfl (Nat.le_of_ble_eq_true rfl) rfl ?_
        refine q_goto o_Wy_firstPleasing_79 ?_
        exact q_weak (ls' := [some (.ref 5), some (.ref p0), some (.ref p1), some (.int l5), some (.int x15), some (.int (l5 + 1)), none, none]) (And.intro rfl (And.intro rfl (And.intro rfl (And.intro rfl (And.intro rfl (And.intro rfl trivial)))))) h17
      · have h18 := h12.2 c16
        refine q_iload o_Wy_firstPleasing_57 rfl ?_
        refine q_if_gt o_Wy_firstPleasing_59 (fun c19 => ?_) (fun c19 => ?_)
        · have h20 := h18.1 c19
          refine q_iload o_Wy_firstPleasing_69 rfl ?_
          refine q2_istn (ls' := [some (.ref 5), some (.ref p0), some (.ref p1), some (.int l5), some (.int l4), some (.int l5), some (.int ((q_I σ 9 k5) - x9)), some (.int x15)]) o_Wy_firstPleasing_71 (Nat.le_of_ble_eq_true rfl) rfl ?_
          refine q_iload o_Wy_firstPleasing_72 rfl ?_
          refine q2_ist (ls' := [some (.ref 5), some (.ref p0), some (.ref p1), some (.int l5), some (.int x15), some (.int l5), some (.int ((q_I σ 9 k5) - x9)), some (.int x15)]) o_Wy_firstPleasing_74 (Nat.le_of_ble_eq_true rfl) rfl ?_
          refine q2_inc (v := (l5 + 1)) (ls' := [some (.ref 5), some (.ref p0), some (.ref p1), some (.int l5), some (.int x15), some (.int (l5 + 1)), some (.int ((q_I σ 9 k5) - x9)), some (.int x15)]) o_Wy_firstPleasing_76 rfl rfl (Nat.le_of_ble_eq_true rfl) rfl ?_
          refine q_goto o_Wy_firstPleasing_79 ?_
          exact q_weak (ls' := [some (.ref 5), some (.ref p0), some (.ref p1), some (.int l5), some (.int x15), some (.int (l5 + 1)), none, none]) (And.intro rfl (And.intro rfl (And.intro rfl (And.intro rfl (And.intro rfl (And.intro rfl trivial)))))) h20
        · have h21 := h18.2 c19
          refine q_iload o_Wy_firstPleasing_62 rfl ?_
          refine q_iload o_Wy_firstPleasing_64 rfl ?_
          refine q_icmp_ge o_Wy_firstPleasing_66 (fun c22 => ?_) (fun c22 => ?_)
          · have h23 := h21.1 c22
            refine q2_inc (v := (l5 + 1)) (ls' := [some (.ref 5), some (.ref p0), some (.ref p1), some (.int l3), some (.int l4), some (.int (l5 + 1)), some (.int ((q_I σ 9 k5) - x9)), some (.int x15)]) o_Wy_firstPleasing_76 rfl rfl (Nat.le_of_ble_eq_true rfl) rfl ?_
            refine q_goto o_Wy_firstPleasing_79 ?_
            exact q_weak (ls' := [some (.ref 5), some (.ref p0), some (.ref p1), some (.int l3), some (.int l4), some (.int (l5 + 1)), none, none]) (And.intro rfl (And.intro rfl (And.intro rfl (And.intro rfl (And.intro rfl (And.intro rfl trivial)))))) h23
          · have h24 := h21.2 c22
            refine q_iload o_Wy_firstPleasing_69 rfl ?_
            refine q2_istn (ls' := [some (.ref 5), some (.ref p0), some (.ref p1), some (.int l5), some (.int l4), some (.int l5), some (.int ((q_I σ 9 k5) - x9)), some (.int x15)]) o_Wy_firstPleasing_71 (Nat.le_of_ble_eq_true rfl) rfl ?_
            refine q_iload o_Wy_firstPleasing_72 rfl ?_
            refine q2_ist (ls' := [some (.ref 5), some (.ref p0), some (.ref p1), some (.int l5), some (.int x15), some (.int l5), some (.int ((q_I σ 9 k5) - x9)), some (.int x15)]) o_Wy_firstPleasing_74 (Nat.le_of_ble_eq_true rfl) rfl ?_
            refine q2_inc (v := (l5 + 1)) (ls' := [some (.ref 5), some (.ref p0), some (.ref p1), some (.int l5), some (.int x15), some (.int (l5 + 1)), some (.int ((q_I σ 9 k5) - x9)), some (.int x15)]) o_Wy_firstPleasing_76 rfl rfl (Nat.le_of_ble_eq_true rfl) rfl ?_
            refine q_goto o_Wy_firstPleasing_79 ?_
            exact q_weak (ls' := [some (.ref 5), some (.ref p0), some (.ref p1), some (.int l5), some (.int x15), some (.int (l5 + 1)), none, none]) (And.intro rfl (And.intro rfl (And.intro rfl (And.intro rfl (And.intro rfl (And.intro rfl trivial)))))) h24
    · have h25 := h6.2 c10
      refine q_iload o_Wy_firstPleasing_37 rfl ?_
      refine q_if_lt o_Wy_firstPleasing_39 (fun c26 => ?_) (fun c26 => ?_)
      · have h27 := h25.1 c26
        refine q2_inc (v := (l5 + 1)) (ls' := [some (.ref 5), some (.ref p0), some (.ref p1), some (.int l3), some (.int l4), some (.int (l5 + 1)), some (.int ((q_I σ 9 k5) - x9)), none]) o_Wy_firstPleasing_76 rfl rfl (Nat.le_of_ble_eq_true rfl) rfl ?_
        refine q_goto o_Wy_firstPleasing_79 ?_
        exact q_weak (ls' := [some (.ref 5), some (.ref p0), some (.ref p1), some (.int l3), some (.int l4), some (.int (l5 + 1)), none, none]) (And.intro rfl (And.intro rfl (And.intro rfl (And.intro rfl (And.intro rfl (And.intro rfl trivial)))))) h27
      · have h28 := h25.2 c26
        refine q_aload_n o_Wy_firstPleasing_42 rfl ?_
        refine q_iload o_Wy_firstPleasing_43 rfl ?_
        refine q_aload_n o_Wy_firstPleasing_45 rfl ?_
        refine q_aload_n o_Wy_firstPleasing_46 rfl ?_
        refine q2_callVi _ (a := 5) (As := [.int l5, .ref p0, .ref p1]) (st := []) hs8 o_Wy_firstPleasing_47 k_Wy_90 rfl rfl (Nat.le_of_ble_eq_true rfl) h28 (fun x32 σ30 hs31 h29 => ?_)
        refine q2_ist (ls' := [some (.ref 5), some (.ref p0), some (.ref p1), some (.int l3), some (.int l4), some (.int l5), some (.int ((q_I σ 9 k5) - x9)), some (.int x32)]) o_Wy_firstPleasing_50 (Nat.le_of_ble_eq_true rfl) rfl ?_
        refine q_iload_n o_Wy_firstPleasing_52 rfl ?_
        refine q_iconst (v := (-1)) o_Wy_firstPleasing_53 (by decide) ?_
        refine q_icmp_eq o_Wy_firstPleasing_54 (fun c33 => ?_) (fun c33 => ?_)
        · have h34 := h29.1 c33
          refine q_iload o_Wy_firstPleasing_69 rfl ?_
          refine q2_istn (ls' := [some (.ref 5), some (.ref p0), some (.ref p1), some (.int l5), some (.int l4), some (.int l5), some (.int ((q_I σ 9 k5) - x9)), some (.int x32)]) o_Wy_firstPleasing_71 (Nat.le_of_ble_eq_true rfl) rfl ?_
          refine q_iload o_Wy_firstPleasing_72 rfl ?_
          refine q2_ist (ls' := [some (.ref 5), some (.ref p0), some (.ref p1), some (.int l5), some (.int x32), some (.int l5), some (.int ((q_I σ 9 k5) - x9)), some (.int x32)]) o_Wy_firstPleasing_74 (Nat.le_of_ble_eq_true rfl) rfl ?_
          refine q2_inc (v := (l5 + 1)) (ls' := [some (.ref 5), some (.ref p0), some (.ref p1), some (.int l5), some (.int x32), some (.int (l5 + 1)), some (.int ((q_I σ 9 k5) - x9)), some (.int x32)]) o_Wy_firstPleasing_76 rfl rfl (Nat.le_of_ble_eq_true rfl) rfl ?_
          refine q_goto o_Wy_firstPleasing_79 ?_
          exact q_weak (ls' := [some (.ref 5), some (.ref p0), some (.ref p1), some (.int l5), some (.int x32), some (.int (l5 + 1)), none, none]) (And.intro rfl (And.intro rfl (And.intro rfl (And.intro rfl (And.intro rfl (And.intro rfl trivial)))))) h34
        · have h35 := h29.2 c33
          refine q_iload o_Wy_firstPleasing_57 rfl ?_
          refine q_if_gt o_Wy_firstPleasing_59 (fun c36 => ?_) (fun c36 => ?_)
          · have h37 := h35.1 c36
            refine q_iload o_Wy_firstPleasing_69 rfl ?_
            refine q2_istn (ls' := [some (.ref 5), some (.ref p0), some (.ref p1), some (.int l5), some (.int l4), some (.int l5), some (.int ((q_I σ 9 k5) - x9)), some (.int x32)]) o_Wy_firstPleasing_71 (Nat.le_of_ble_eq_true rfl) rfl ?_
            refine q_iload o_Wy_firstPleasing_72 rfl ?_
            refine q2_ist (ls' := [some (.ref 5), some (.ref p0), some (.ref p1), some (.int l5), some (.int x32), some (.int l5), some (.int ((q_I σ 9 k5) - x9)), some (.int x32)]) o_Wy_firstPleasing_74 (Nat.le_of_ble_eq_true rfl) rfl ?_
            refine q2_inc (v := (l5 + 1)) (ls' := [some (.ref 5), some (.ref p0), some (.ref p1), some (.int l5), some (.int x32), some (.int (l5 + 1)), some (.int ((q_I σ 9 k5) - x9)), some (.int x32)]) o_Wy_firstPleasing_76 rfl rfl (Nat.le_of_ble_eq_true rfl) rfl ?_
            refine q_goto o_Wy_firstPleasing_79 ?_
            exact q_weak (ls' := [some (.ref 5), some (.ref p0), some (.ref p1), some (.int l5), some (.int x32), some (.int (l5 + 1)), none, none]) (And.intro rfl (And.intro rfl (And.intro rfl (And.intro rfl (And.intro rfl (And.intro rfl trivial)))))) h37
          · have h38 := h35.2 c36
            refine q_iload o_Wy_firstPleasing_62 rfl ?_
            refine q_iload o_Wy_firstPleasing_64 rfl ?_
            refine q_icmp_ge o_Wy_firstPleasing_66 (fun c39 => ?_) (fun c39 => ?_)
            · have h40 := h38.1 c39
              refine q2_inc (v := (l5 + 1)) (ls' := [some (.ref 5), some (.ref p0), some (.ref p1), some (.int l3), some (.int l4), some (.int (l5 + 1)), some (.int ((q_I σ 9 k5) - x9)), some (.int x32)]) o_Wy_firstPleasing_76 rfl rfl (Nat.le_of_ble_eq_true rfl) rfl ?_
              refine q_goto o_Wy_firstPleasing_79 ?_
              exact q_weak (ls' := [some (.ref 5), some (.ref p0), some (.ref p1), some (.int l3), some (.int l4), some (.int (l5 + 1)), none, none]) (And.intro rfl (And.intro rfl (And.intro rfl (And.intro rfl (And.intro rfl (And.intro rfl trivial)))))) h40
            · have h41 := h38.2 c39
              refine q_iload o_Wy_firstPleasing_69 rfl ?_
              refine q2_istn (ls' := [some (.ref 5), some (.ref p0), some (.ref p1), some (.int l5), some (.int l4), some (.int l5), some (.int ((q_I σ 9 k5) - x9)), some (.int x32)]) o_Wy_firstPleasing_71 (Nat.le_of_ble_eq_true rfl) rfl ?_
              refine q_iload o_Wy_firstPleasing_72 rfl ?_
              refine q2_ist (ls' := [some (.ref 5), some (.ref p0), some (.ref p1), some (.int l5), some (.int x32), some (.int l5), some (.int ((q_I σ 9 k5) - x9)), some (.int x32)]) o_Wy_firstPleasing_74 (Nat.le_of_ble_eq_true rfl) rfl ?_
              refine q2_inc (v := (l5 + 1)) (ls' := [some (.ref 5), some (.ref p0), some (.ref p1), some (.int l5), some (.int x32), some (.int (l5 + 1)), some (.int ((q_I σ 9 k5) - x9)), some (.int x32)]) o_Wy_firstPleasing_76 rfl rfl (Nat.le_of_ble_eq_true rfl) rfl ?_
              refine q_goto o_Wy_firstPleasing_79 ?_
              exact q_weak (ls' := [some (.ref 5), some (.ref p0), some (.ref p1), some (.int l5), some (.int x32), some (.int (l5 + 1)), none, none]) (And.intro rfl (And.intro rfl (And.intro rfl (And.intro rfl (And.intro rfl (And.intro rfl trivial)))))) h41

set_option maxRecDepth 20000 in
theorem v_Wy_firstQuiet_0 {G : q_G} {d : Nat} {σ : q_S} {Q : Option Value → q_S → Prop}   (hs : q_Sh σ) (h : q_At G X_Wy_firstQuiet (d + 1) 0 0 4 [some (.ref 5), some (.int 0), some (.int 1)] [] σ Q) : q_At G X_Wy_firstQuiet (d + 1) 0 0 0 [some (.ref 5), none, none] [] σ Q := by
  refine q_iconst (v := 0) o_Wy_firstQuiet_0 (by decide) ?_
  refine q2_istn (ls' := [some (.ref 5), some (.int 0), none]) o_Wy_firstQuiet_1 (Nat.le_of_ble_eq_true rfl) rfl ?_
  refine q_iconst (v := 1) o_Wy_firstQuiet_2 (by decide) ?_
  refine q2_istn (ls' := [some (.ref 5), some (.int 0), some (.int 1)]) o_Wy_firstQuiet_3 (Nat.le_of_ble_eq_true rfl) rfl ?_
  exact h

set_option maxRecDepth 20000 in
theorem v_Wy_firstQuiet_4 {G : q_G} {d : Nat} {σ : q_S} {Q : Option Value → q_S → Prop} {l1 : Int32} {l2 : Int32}  (hs : q_Sh σ) (h : (((q_I σ 5 7) ≤ l2 → Q (some (.int l1)) σ) ∧ (¬ (q_I σ 5 7) ≤ l2 → q_Call G d 0 0 X_Wy_feltByAll [.ref 5, .int l2] σ (q_ri (fun x7 σ5 => q_Call G d 0 0 X_Wy_feltByAll [.ref 5, .int l1] σ5 (q_ri (fun x11 σ9 => ((x11 ≤ x7 → q_At G X_Wy_firstQuiet (d + 1) 0 0 4 [some (.ref 5), some (.int l1), some (.int (l2 + 1))] [] σ9 Q) ∧ (¬ x11 ≤ x7 → q_At G X_Wy_firstQuiet (d + 1) 0 0 4 [some (.ref 5), some (.int l2), some (.int (l2 + 1))] [] σ9 Q))))))))) : q_At G X_Wy_firstQuiet (d + 1) 0 0 4 [some (.ref 5), some (.int l1), some (.int l2)] [] σ Q := by
  refine q_iload_n o_Wy_firstQuiet_4 rfl ?_
  refine q_aload_n o_Wy_firstQuiet_5 rfl ?_
  refine q2_getI hs o_Wy_firstQuiet_6 f_Wy_35 rfl ?_
  refine q_icmp_ge o_Wy_firstQuiet_9 (fun c1 => ?_) (fun c1 => ?_)
  · have h2 := h.1 c1
    refine q_iload_n o_Wy_firstQuiet_33 rfl ?_
    exact q_ire o_Wy_firstQuiet_34 rfl h2
  · have h3 := h.2 c1
    refine q_aload_n o_Wy_firstQuiet_12 rfl ?_
    refine q_iload_n o_Wy_firstQuiet_13 rfl ?_
    refine q2_callVi _ (a := 5) (As := [.int l2]) (st := []) hs o_Wy_firstQuiet_14 k_Wy_98 rfl rfl (Nat.le_of_ble_eq_true rfl) h3 (fun x7 σ5 hs6 h4 => ?_)
    refine q_aload_n o_Wy_firstQuiet_17 rfl ?_
    refine q_iload_n o_Wy_firstQuiet_18 rfl ?_
    refine q2_callVi _ (a := 5) (As := [.int l1]) (st := [.int x7]) hs6 o_Wy_firstQuiet_19 k_Wy_98 rfl rfl (Nat.le_of_ble_eq_true rfl) h4 (fun x11 σ9 hs10 h8 => ?_)
    refine q_icmp_ge o_Wy_firstQuiet_22 (fun c12 => ?_) (fun c12 => ?_)
    · have h13 := h8.1 c12
      refine q2_inc (v := (l2 + 1)) (ls' := [some (.ref 5), some (.int l1), some (.int (l2 + 1))]) o_Wy_firstQuiet_27 rfl rfl (Nat.le_of_ble_eq_true rfl) rfl ?_
      refine q_goto o_Wy_firstQuiet_30 ?_
      exact h13
    · have h14 := h8.2 c12
      refine q_iload_n o_Wy_firstQuiet_25 rfl ?_
      refine q2_istn (ls' := [some (.ref 5), some (.int l2), some (.int l2)]) o_Wy_firstQuiet_26 (Nat.le_of_ble_eq_true rfl) rfl ?_
      refine q2_inc (v := (l2 + 1)) (ls' := [some (.ref 5), some (.int l2), some (.int (l2 + 1))]) o_Wy_firstQuiet_27 rfl rfl (Nat.le_of_ble_eq_true rfl) rfl ?_
      refine q_goto o_Wy_firstQuiet_30 ?_
      exact h14

set_option maxRecDepth 20000 in
theorem v_Wy_agreeing_0 {G : q_G} {d : Nat} {σ : q_S} {Q : Option Value → q_S → Prop} {p0 : Nat} {p1 : Int64} (hp0 : q_isTl p0) (hs : q_Sh σ) (h : q_At G X_Wy_agreeing (d + 1) 0 0 6 [some (.ref 5), some (.ref p0), some (.long p1), none, some (.int 0), some (.int 0)] [] σ Q) : q_At G X_Wy_agreeing (d + 1) 0 0 0 [some (.ref 5), some (.ref p0), some (.long p1), none, none, none] [] σ Q := by
  refine q_iconst (v := 0) o_Wy_agreeing_0 (by decide) ?_
  refine q2_ist (ls' := [some (.ref 5), some (.ref p0), some (.long p1), none, some (.int 0), none]) o_Wy_agreeing_1 (Nat.le_of_ble_eq_true rfl) rfl ?_
  refine q_iconst (v := 0) o_Wy_agreeing_3 (by decide) ?_
  refine q2_ist (ls' := [some (.ref 5), some (.ref p0), some (.long p1), none, some (.int 0), some (.int 0)]) o_Wy_agreeing_4 (Nat.le_of_ble_eq_true rfl) rfl ?_
  exact h

set_option maxRecDepth 20000 in
theorem v_Wy_agreeing_6 {G : q_G} {d : Nat} {σ : q_S} {Q : Option Value → q_S → Prop} {p0 : Nat} {p1 : Int64} {l4 : Int32} {l5 : Int32} (hp0 : q_isTl p0) (hs : q_Sh σ) (h : (((q_I σ 5 7) ≤ l5 → Q (some (.int l4)) σ) ∧ (¬ (q_I σ 5 7) ≤ l5 → (∃ k5, l5 = nI k5 ∧ k5 < 720 ∧ q_Call G d 0 0 X_Tl_agreeWith [.ref p0, .long (q_L σ 8 k5)] σ (q_ri (fun x9 σ7 => ((x9 = 0 → q_At G X_Wy_agreeing (d + 1) 0 0 6 [some (.ref 5), some (.ref p0), some (.long p1), none, some (.int l4), some (.int (l5 + 1))] [] σ7 Q) ∧ (¬ x9 = 0 → (∃ k14, l5 = nI k14 ∧ k14 < 720 ∧ ((¬ (lg_cmp ((q_L σ7 8 k14) &&& p1) p1) = 0 → q_At G X_Wy_agreeing (d + 1) 0 0 6 [some (.ref 5), some (.ref p0), some (.long p1), none, some (.int l4), some (.int (l5 + 1))] [] σ7 Q) ∧ ((lg_cmp ((q_L σ7 8 k14) &&& p1) p1) = 0 → q_At G X_Wy_agreeing (d + 1) 0 0 6 [some (.ref 5), some (.ref p0), some (.long p1), none, some (.int (l4 + 1)), some (.int (l5 + 1))] [] σ7 Q))))))))))) : q_At G X_Wy_agreeing (d + 1) 0 0 6 [some (.ref 5), some (.ref p0), some (.long p1), none, some (.int l4), some (.int l5)] [] σ Q := by
  refine q_iload o_Wy_agreeing_6 rfl ?_
  refine q_aload_n o_Wy_agreeing_8 rfl ?_
  refine q2_getI hs o_Wy_agreeing_9 f_Wy_35 rfl ?_
  refine q_icmp_ge o_Wy_agreeing_12 (fun c1 => ?_) (fun c1 => ?_)
  · have h2 := h.1 c1
    refine q_iload o_Wy_agreeing_52 rfl ?_
    exact q_ire o_Wy_agreeing_54 rfl h2
  · have h3 := h.2 c1
    refine q_aload_n o_Wy_agreeing_15 rfl ?_
    refine q_aload_n o_Wy_agreeing_16 rfl ?_
    refine q2_getR hs o_Wy_agreeing_17 f_Wy_19 rfl (fz_5_2 hs) ?_
    refine q_iload o_Wy_agreeing_20 rfl ?_
    obtain ⟨k5, eh4, bh4, h4⟩ := h3
    refine q2_lald hs o_Wy_agreeing_22 rfl eh4 bh4 (by decide) ?_
    refine q2_callVi _ (a := p0) (As := [.long (q_L σ 8 k5)]) (st := []) hs o_Wy_agreeing_23 k_Wy_101 (kd_Tl_0 hp0) rfl (Nat.le_of_ble_eq_true rfl) h4 (fun x9 σ7 hs8 h6 => ?_)
    refine q_if_eq o_Wy_agreeing_26 (fun c10 => ?_) (fun c10 => ?_)
    · have h11 := h6.1 c10
      refine q2_inc (v := (l5 + 1)) (ls' := [some (.ref 5), some (.ref p0), some (.long p1), none, some (.int l4), some (.int (l5 + 1))]) o_Wy_agreeing_46 rfl rfl (Nat.le_of_ble_eq_true rfl) rfl ?_
      refine q_goto o_Wy_agreeing_49 ?_
      exact h11
    · have h12 := h6.2 c10
      refine q_aload_n o_Wy_agreeing_29 rfl ?_
      refine q2_getR hs8 o_Wy_agreeing_30 f_Wy_19 rfl (fz_5_2 hs8) ?_
      refine q_iload o_Wy_agreeing_33 rfl ?_
      obtain ⟨k14, eh13, bh13, h13⟩ := h12
      refine q2_lald hs8 o_Wy_agreeing_35 rfl eh13 bh13 (by decide) ?_
      refine q_lload_n o_Wy_agreeing_36 rfl ?_
      refine q_land o_Wy_agreeing_37 ?_
      refine q_lload_n o_Wy_agreeing_38 rfl ?_
      refine q_lcmp o_Wy_agreeing_39 ?_
      refine q_if_ne o_Wy_agreeing_40 (fun c15 => ?_) (fun c15 => ?_)
      · have h16 := h13.1 c15
        refine q2_inc (v := (l5 + 1)) (ls' := [some (.ref 5), some (.ref p0), some (.long p1), none, some (.int l4), some (.int (l5 + 1))]) o_Wy_agreeing_46 rfl rfl (Nat.le_of_ble_eq_true rfl) rfl ?_
        refine q_goto o_Wy_agreeing_49 ?_
        exact h16
      · have h17 := h13.2 c15
        refine q2_inc (v := (l4 + 1)) (ls' := [some (.ref 5), some (.ref p0), some (.long p1), none, some (.int (l4 + 1)), some (.int l5)]) o_Wy_agreeing_43 rfl rfl (Nat.le_of_ble_eq_true rfl) rfl ?_
        refine q2_inc (v := (l5 + 1)) (ls' := [some (.ref 5), some (.ref p0), some (.long p1), none, some (.int (l4 + 1)), some (.int (l5 + 1))]) o_Wy_agreeing_46 rfl rfl (Nat.le_of_ble_eq_true rfl) rfl ?_
        refine q_goto o_Wy_agreeing_49 ?_
        exact h17
