set_option maxRecDepth 20000 in
theorem v_Tk_start_0 {G : q_G} {d : Nat} {σ : q_S} {Q : Option Value → q_S → Prop}   (hs : q_Sh σ) (h : q_Call G d 0 0 X_Tk_advance [.ref 3] (q_setI (q_setI σ 3 3 0) 3 9 0) (q_rv (fun σ2 => Q none σ2))) : q_At G X_Tk_start (d + 1) 0 0 0 [some (.ref 3)] [] σ Q := by
  refine q_aload_n o_Tk_start_0 rfl ?_
  refine q_iconst (v := 0) o_Tk_start_1 (by decide) ?_
  refine q2_putI hs o_Tk_start_2 fp_Tk_24 rfl rfl rfl ?_
  refine q_aload_n o_Tk_start_5 rfl ?_
  refine q_iconst (v := 0) o_Tk_start_6 (by decide) ?_
  refine q2_putI hs o_Tk_start_7 fp_Tk_28 rfl rfl rfl ?_
  refine q_aload_n o_Tk_start_10 rfl ?_
  refine q2_callVv _ (a := 3) (As := []) (st := []) hs o_Tk_start_11 k_Tk_31 rfl rfl (Nat.le_of_ble_eq_true rfl) h (fun σ2 hs3 h1 => ?_)
  exact q_vre o_Tk_start_14 rfl h1

set_option maxRecDepth 20000 in
theorem v_Tk_advance_0 {G : q_G} {d : Nat} {σ : q_S} {Q : Option Value → q_S → Prop}   (hs : q_Sh σ) (h : (((q_I σ 1 1) ≤ (q_I σ 3 3) → (((q_I (q_setI σ 3 2 (q_I σ 3 3)) 1 1) ≤ (q_I (q_setI σ 3 2 (q_I σ 3 3)) 3 3) → (((q_I (q_setI σ 3 2 (q_I σ 3 3)) 3 3) < (q_I (q_setI σ 3 2 (q_I σ 3 3)) 1 1) → q_Call G d 0 0 X_Tk_readSign [.ref 3, .int 32] (q_setI σ 3 2 (q_I σ 3 3)) (q_rv (fun σ10 => Q none σ10))) ∧ (¬ (q_I (q_setI σ 3 2 (q_I σ 3 3)) 3 3) < (q_I (q_setI σ 3 2 (q_I σ 3 3)) 1 1) → Q none (q_setI (q_setI σ 3 2 (q_I σ 3 3)) 3 1 0)))) ∧ (¬ (q_I (q_setI σ 3 2 (q_I σ 3 3)) 1 1) ≤ (q_I (q_setI σ 3 2 (q_I σ 3 3)) 3 3) → (∃ k15, (q_I (q_setI σ 3 2 (q_I σ 3 3)) 3 3) = nI k15 ∧ k15 < 1000 ∧ (((q_I (q_setI σ 3 2 (q_I σ 3 3)) 3 3) < (q_I (q_setI σ 3 2 (q_I σ 3 3)) 1 1) → (((q_I (q_setI σ 3 2 (q_I σ 3 3)) 2 k15) < 97 → (((q_I (q_setI σ 3 2 (q_I σ 3 3)) 2 k15) < 48 → q_Call G d 0 0 X_Tk_readSign [.ref 3, .int (q_I (q_setI σ 3 2 (q_I σ 3 3)) 2 k15)] (q_setI σ 3 2 (q_I σ 3 3)) (q_rv (fun σ23 => Q none σ23))) ∧ (¬ (q_I (q_setI σ 3 2 (q_I σ 3 3)) 2 k15) < 48 → ((57 < (q_I (q_setI σ 3 2 (q_I σ 3 3)) 2 k15) → q_Call G d 0 0 X_Tk_readSign [.ref 3, .int (q_I (q_setI σ 3 2 (q_I σ 3 3)) 2 k15)] (q_setI σ 3 2 (q_I σ 3 3)) (q_rv (fun σ29 => Q none σ29))) ∧ (¬ 57 < (q_I (q_setI σ 3 2 (q_I σ 3 3)) 2 k15) → q_Call G d 0 0 X_Tk_readNumber [.ref 3] (q_setI σ 3 2 (q_I σ 3 3)) (q_rv (fun σ33 => Q none σ33))))))) ∧ (¬ (q_I (q_setI σ 3 2 (q_I σ 3 3)) 2 k15) < 97 → ((122 < (q_I (q_setI σ 3 2 (q_I σ 3 3)) 2 k15) → (((q_I (q_setI σ 3 2 (q_I σ 3 3)) 2 k15) < 48 → q_Call G d 0 0 X_Tk_readSign [.ref 3, .int (q_I (q_setI σ 3 2 (q_I σ 3 3)) 2 k15)] (q_setI σ 3 2 (q_I σ 3 3)) (q_rv (fun σ41 => Q none σ41))) ∧ (¬ (q_I (q_setI σ 3 2 (q_I σ 3 3)) 2 k15) < 48 → ((57 < (q_I (q_setI σ 3 2 (q_I σ 3 3)) 2 k15) → q_Call G d 0 0 X_Tk_readSign [.ref 3, .int (q_I (q_setI σ 3 2 (q_I σ 3 3)) 2 k15)] (q_setI σ 3 2 (q_I σ 3 3)) (q_rv (fun σ47 => Q none σ47))) ∧ (¬ 57 < (q_I (q_setI σ 3 2 (q_I σ 3 3)) 2 k15) → q_Call G d 0 0 X_Tk_readNumber [.ref 3] (q_setI σ 3 2 (q_I σ 3 3)) (q_rv (fun σ51 => Q none σ51))))))) ∧ (¬ 122 < (q_I (q_setI σ 3 2 (q_I σ 3 3)) 2 k15) → q_Call G d 0 0 X_Tk_readWord [.ref 3] (q_setI σ 3 2 (q_I σ 3 3)) (q_rv (fun σ55 => Q none σ55))))))) ∧ (¬ (q_I (q_setI σ 3 2 (q_I σ 3 3)) 3 3) < (q_I (q_setI σ 3 2 (q_I σ 3 3)) 1 1) → Q none (q_setI (q_setI σ 3 2 (q_I σ 3 3)) 3 1 0))))))) ∧ (¬ (q_I σ 1 1) ≤ (q_I σ 3 3) → (∃ k60, (q_I σ 3 3) = nI k60 ∧ k60 < 1000 ∧ (((q_I σ 2 k60) = 32 → q_At G X_Tk_advance (d + 1) 0 0 0 [some (.ref 3), none] [] (q_setI σ 3 3 ((q_I σ 3 3) + 1)) Q) ∧ (¬ (q_I σ 2 k60) = 32 → (∃ k65, (q_I σ 3 3) = nI k65 ∧ k65 < 1000 ∧ ((¬ (q_I σ 2 k65) = 10 → (((q_I (q_setI σ 3 2 (q_I σ 3 3)) 1 1) ≤ (q_I (q_setI σ 3 2 (q_I σ 3 3)) 3 3) → (((q_I (q_setI σ 3 2 (q_I σ 3 3)) 3 3) < (q_I (q_setI σ 3 2 (q_I σ 3 3)) 1 1) → q_Call G d 0 0 X_Tk_readSign [.ref 3, .int 32] (q_setI σ 3 2 (q_I σ 3 3)) (q_rv (fun σ75 => Q none σ75))) ∧ (¬ (q_I (q_setI σ 3 2 (q_I σ 3 3)) 3 3) < (q_I (q_setI σ 3 2 (q_I σ 3 3)) 1 1) → Q none (q_setI (q_setI σ 3 2 (q_I σ 3 3)) 3 1 0)))) ∧ (¬ (q_I (q_setI σ 3 2 (q_I σ 3 3)) 1 1) ≤ (q_I (q_setI σ 3 2 (q_I σ 3 3)) 3 3) → (∃ k80, (q_I (q_setI σ 3 2 (q_I σ 3 3)) 3 3) = nI k80 ∧ k80 < 1000 ∧ (((q_I (q_setI σ 3 2 (q_I σ 3 3)) 3 3) < (q_I (q_setI σ 3 2 (q_I σ 3 3)) 1 1) → (((q_I (q_setI σ 3 2 (q_I σ 3 3)) 2 k80) < 97 → (((q_I (q_setI σ 3 2 (q_I σ 3 3)) 2 k80) < 48 → q_Call G d 0 0 X_Tk_readSign [.ref 3, .int (q_I (q_setI σ 3 2 (q_I σ 3 3)) 2 k80)] (q_setI σ 3 2 (q_I σ 3 3)) (q_rv (fun σ88 => Q none σ88))) ∧ (¬ (q_I (q_setI σ 3 2 (q_I σ 3 3)) 2 k80) < 48 → ((57 < (q_I (q_setI σ 3 2 (q_I σ 3 3)) 2 k80) → q_Call G d 0 0 X_Tk_readSign [.ref 3, .int (q_I (q_setI σ 3 2 (q_I σ 3 3)) 2 k80)] (q_setI σ 3 2 (q_I σ 3 3)) (q_rv (fun σ94 => Q none σ94))) ∧ (¬ 57 < (q_I (q_setI σ 3 2 (q_I σ 3 3)) 2 k80) → q_Call G d 0 0 X_Tk_readNumber [.ref 3] (q_setI σ 3 2 (q_I σ 3 3)) (q_rv (fun σ98 => Q none σ98))))))) ∧ (¬ (q_I (q_setI σ 3 2 (q_I σ 3 3)) 2 k80) < 97 → ((122 < (q_I (q_setI σ 3 2 (q_I σ 3 3)) 2 k80) → (((q_I (q_setI σ 3 2 (q_I σ 3 3)) 2 k80) < 48 → q_Call G d 0 0 X_Tk_readSign [.ref 3, .int (q_I (q_setI σ 3 2 (q_I σ 3 3)) 2 k80)] (q_setI σ 3 2 (q_I σ 3 3)) (q_rv (fun σ106 => Q none σ106))) ∧ (¬ (q_I (q_setI σ 3 2 (q_I σ 3 3)) 2 k80) < 48 → ((57 < (q_I (q_setI σ 3 2 (q_I σ 3 3)) 2 k80) → q_Call G d 0 0 X_Tk_readSign [.ref 3, .int (q_I (q_setI σ 3 2 (q_I σ 3 3)) 2 k80)] (q_setI σ 3 2 (q_I σ 3 3)) (q_rv (fun σ112 => Q none σ112))) ∧ (¬ 57 < (q_I (q_setI σ 3 2 (q_I σ 3 3)) 2 k80) → q_Call G d 0 0 X_Tk_readNumber [.ref 3] (q_setI σ 3 2 (q_I σ 3 3)) (q_rv (fun σ116 => Q none σ116))))))) ∧ (¬ 122 < (q_I (q_setI σ 3 2 (q_I σ 3 3)) 2 k80) → q_Call G d 0 0 X_Tk_readWord [.ref 3] (q_setI σ 3 2 (q_I σ 3 3)) (q_rv (fun σ120 => Q none σ120))))))) ∧ (¬ (q_I (q_setI σ 3 2 (q_I σ 3 3)) 3 3) < (q_I (q_setI σ 3 2 (q_I σ 3 3)) 1 1) → Q none (q_setI (q_setI σ 3 2 (q_I σ 3 3)) 3 1 0))))))) ∧ ((q_I σ 2 k65) = 10 → q_At G X_Tk_advance (d + 1) 0 0 0 [some (.ref 3), none] [] (q_setI σ 3 3 ((q_I σ 3 3) + 1)) Q))))))))) : q_At G X_Tk_advance (d + 1) 0 0 0 [some (.ref 3), none] [] σ Q := by
  refine q_aload_n o_Tk_advance_0 rfl ?_
  refine q2_getI hs o_Tk_advance_1 f_Tk_24 rfl ?_
  refine q_aload_n o_Tk_advance_4 rfl ?_
  refine q2_getR hs o_Tk_advance_5 f_Tk_20 rfl (fz_3_0 hs) ?_
  refine q2_getI hs o_Tk_advance_8 f_Tk_34 rfl ?_
  refine q_icmp_ge o_Tk_advance_11 (fun c1 => ?_) (fun c1 => ?_)
  · have h2 := h.1 c1
    refine q_aload_n o_Tk_advance_61 rfl ?_
    refine q_aload_n o_Tk_advance_62 rfl ?_
    refine q2_getI hs o_Tk_advance_63 f_Tk_24 rfl ?_
    refine q2_putI hs o_Tk_advance_66 fp_Tk_43 rfl rfl rfl ?_
    refine q_aload_n o_Tk_advance_69 rfl ?_
    refine q2_getI hs o_Tk_advance_70 f_Tk_24 rfl ?_
    refine q_aload_n o_Tk_advance_73 rfl ?_
    refine q2_getR hs o_Tk_advance_74 f_Tk_20 rfl (fz_3_0 hs) ?_
    refine q2_getI hs o_Tk_advance_77 f_Tk_34 rfl ?_
    refine q_icmp_ge o_Tk_advance_80 (fun c3 => ?_) (fun c3 => ?_)
    · have h4 := h2.1 c3
      refine q_bipush (v := 32) o_Tk_advance_98 (by decide) ?_
      refine q2_istn (ls' := [some (.ref 3), some (.int 32)]) o_Tk_advance_100 (Nat.le_of_ble_eq_true rfl) rfl ?_
      refine q_aload_n o_Tk_advance_101 rfl ?_
      refine q2_getI hs o_Tk_advance_102 f_Tk_24 rfl ?_
      refine q_aload_n o_Tk_advance_105 rfl ?_
      refine q2_getR hs o_Tk_advance_106 f_Tk_20 rfl (fz_3_0 hs) ?_
      refine q2_getI hs o_Tk_advance_109 f_Tk_34 rfl ?_
      refine q_icmp_lt o_Tk_advance_112 (fun c5 => ?_) (fun c5 => ?_)
      · have h6 := h4.1 c5
        refine q_iload_n o_Tk_advance_123 rfl ?_
        refine q_bipush (v := 97) o_Tk_advance_124 (by decide) ?_
        refine q_icmp_lt o_Tk_advance_126 (fun _ => ?_) (fun c7 => absurd c7 (by decide))
        refine q_iload_n o_Tk_advance_142 rfl ?_
        refine q_bipush (v := 48) o_Tk_advance_143 (by decide) ?_
        refine q_icmp_lt o_Tk_advance_145 (fun _ => ?_) (fun c8 => absurd c8 (by decide))
        refine q_aload_n o_Tk_advance_161 rfl ?_
        refine q_iload_n o_Tk_advance_162 rfl ?_
        refine q2_callVv _ (a := 3) (As := [.int 32]) (st := []) hs o_Tk_advance_163 k_Tk_55 rfl rfl (Nat.le_of_ble_eq_true rfl) h6 (fun σ10 hs11 h9 => ?_)
        exact q_vre o_Tk_advance_166 rfl h9
      · have h12 := h4.2 c5
        refine q_aload_n o_Tk_advance_115 rfl ?_
        refine q_iconst (v := 0) o_Tk_advance_116 (by decide) ?_
        refine q2_putI hs o_Tk_advance_117 fp_Tk_46 rfl rfl rfl ?_
        refine q_goto o_Tk_advance_120 ?_
        exact q_vre o_Tk_advance_166 rfl h12
    · have h13 := h2.2 c3
      refine q_aload_n o_Tk_advance_83 rfl ?_
      refine q2_getR hs o_Tk_advance_84 f_Tk_20 rfl (fz_3_0 hs) ?_
      refine q2_getR hs o_Tk_advance_87 f_Tk_39 rfl (fz_1_0 hs) ?_
      refine q_aload_n o_Tk_advance_90 rfl ?_
      refine q2_getI hs o_Tk_advance_91 f_Tk_24 rfl ?_
      obtain ⟨k15, eh14, bh14, h14⟩ := h13
      refine q2_cald hs o_Tk_advance_94 rfl eh14 bh14 (by decide) ?_
      refine q_goto o_Tk_advance_95 ?_
      refine q2_istn (ls' := [some (.ref 3), some (.int (q_I (q_setI σ 3 2 (q_I σ 3 3)) 2 k15))]) o_Tk_advance_100 (Nat.le_of_ble_eq_true rfl) rfl ?_
      refine q_aload_n o_Tk_advance_101 rfl ?_
      refine q2_getI hs o_Tk_advance_102 f_Tk_24 rfl ?_
      refine q_aload_n o_Tk_advance_105 rfl ?_
      refine q2_getR hs o_Tk_advance_106 f_Tk_20 rfl (fz_3_0 hs) ?_
      refine q2_getI hs o_Tk_advance_109 f_Tk_34 rfl ?_
      refine q_icmp_lt o_Tk_advance_112 (fun c16 => ?_) (fun c16 => ?_)
      · have h17 := h14.1 c16
        refine q_iload_n o_Tk_advance_123 rfl ?_
        refine q_bipush (v := 97) o_Tk_advance_124 (by decide) ?_
        refine q_icmp_lt o_Tk_advance_126 (fun c18 => ?_) (fun c18 => ?_)
        · have h19 := h17.1 c18
          refine q_iload_n o_Tk_advance_142 rfl ?_
          refine q_bipush (v := 48) o_Tk_advance_143 (by decide) ?_
          refine q_icmp_lt o_Tk_advance_145 (fun c20 => ?_) (fun c20 => ?_)
          · have h21 := h19.1 c20
            refine q_aload_n o_Tk_advance_161 rfl ?_
            refine q_iload_n o_Tk_advance_162 rfl ?_
            refine q2_callVv _ (a := 3) (As := [.int (q_I (q_setI σ 3 2 (q_I σ 3 3)) 2 k15)]) (st := []) hs o_Tk_advance_163 k_Tk_55 rfl rfl (Nat.le_of_ble_eq_true rfl) h21 (fun σ23 hs24 h22 => ?_)
            exact q_vre o_Tk_advance_166 rfl h22
          · have h25 := h19.2 c20
            refine q_iload_n o_Tk_advance_148 rfl ?_
            refine q_bipush (v := 57) o_Tk_advance_149 (by decide) ?_
            refine q_icmp_gt o_Tk_advance_151 (fun c26 => ?_) (fun c26 => ?_)
            · have h27 := h25.1 c26
              refine q_aload_n o_Tk_advance_161 rfl ?_
              refine q_iload_n o_Tk_advance_162 rfl ?_
              refine q2_callVv _ (a := 3) (As := [.int (q_I (q_setI σ 3 2 (q_I σ 3 3)) 2 k15)]) (st := []) hs o_Tk_advance_163 k_Tk_55 rfl rfl (Nat.le_of_ble_eq_true rfl) h27 (fun σ29 hs30 h28 => ?_)
              exact q_vre o_Tk_advance_166 rfl h28
            · have h31 := h25.2 c26
              refine q_aload_n o_Tk_advance_154 rfl ?_
              refine q2_callVv _ (a := 3) (As := []) (st := []) hs o_Tk_advance_155 k_Tk_52 rfl rfl (Nat.le_of_ble_eq_true rfl) h31 (fun σ33 hs34 h32 => ?_)
              refine q_goto o_Tk_advance_158 ?_
              exact q_vre o_Tk_advance_166 rfl h32
        · have h35 := h17.2 c18
          refine q_iload_n o_Tk_advance_129 rfl ?_
          refine q_bipush (v := 122) o_Tk_advance_130 (by decide) ?_
          refine q_icmp_gt o_Tk_advance_132 (fun c36 => ?_) (fun c36 => ?_)
          · have h37 := h35.1 c36
            refine q_iload_n o_Tk_advance_142 rfl ?_
            refine q_bipush (v := 48) o_Tk_advance_143 (by decide) ?_
            refine q_icmp_lt o_Tk_advance_145 (fun c38 => ?_) (fun c38 => ?_)
            · have h39 := h37.1 c38
              refine q_aload_n o_Tk_advance_161 rfl ?_
              refine q_iload_n o_Tk_advance_162 rfl ?_
              refine q2_callVv _ (a := 3) (As := [.int (q_I (q_setI σ 3 2 (q_I σ 3 3)) 2 k15)]) (st := []) hs o_Tk_advance_163 k_Tk_55 rfl rfl (Nat.le_of_ble_eq_true rfl) h39 (fun σ41 hs42 h40 => ?_)
              exact q_vre o_Tk_advance_166 rfl h40
            · have h43 := h37.2 c38
              refine q_iload_n o_Tk_advance_148 rfl ?_
              refine q_bipush (v := 57) o_Tk_advance_149 (by decide) ?_
              refine q_icmp_gt o_Tk_advance_151 (fun c44 => ?_) (fun c44 => ?_)
              · have h45 := h43.1 c44
                refine q_aload_n o_Tk_advance_161 rfl ?_
                refine q_iload_n o_Tk_advance_162 rfl ?_
                refine q2_callVv _ (a := 3) (As := [.int (q_I (q_setI σ 3 2 (q_I σ 3 3)) 2 k15)]) (st := []) hs o_Tk_advance_163 k_Tk_55 rfl rfl (Nat.le_of_ble_eq_true rfl) h45 (fun σ47 hs48 h46 => ?_)
                exact q_vre o_Tk_advance_166 rfl h46
              · have h49 := h43.2 c44
                refine q_aload_n o_Tk_advance_154 rfl ?_
                refine q2_callVv _ (a := 3) (As := []) (st := []) hs o_Tk_advance_155 k_Tk_52 rfl rfl (Nat.le_of_ble_eq_true rfl) h49 (fun σ51 hs52 h50 => ?_)
                refine q_goto o_Tk_advance_158 ?_
                exact q_vre o_Tk_advance_166 rfl h50
          · have h53 := h35.2 c36
            refine q_aload_n o_Tk_advance_135 rfl ?_
            refine q2_callVv _ (a := 3) (As := []) (st := []) hs o_Tk_advance_136 k_Tk_49 rfl rfl (Nat.le_of_ble_eq_true rfl) h53 (fun σ55 hs56 h54 => ?_)
            refine q_goto o_Tk_advance_139 ?_
            exact q_vre o_Tk_advance_166 rfl h54
      · have h57 := h14.2 c16
        refine q_aload_n o_Tk_advance_115 rfl ?_
        refine q_iconst (v := 0) o_Tk_advance_116 (by decide) ?_
        refine q2_putI hs o_Tk_advance_117 fp_Tk_46 rfl rfl rfl ?_
        refine q_goto o_Tk_advance_120 ?_
        exact q_vre o_Tk_advance_166 rfl h57
  · have h58 := h.2 c1
    refine q_aload_n o_Tk_advance_14 rfl ?_
    refine q2_getR hs o_Tk_advance_15 f_Tk_20 rfl (fz_3_0 hs) ?_
    refine q2_getR hs o_Tk_advance_18 f_Tk_39 rfl (fz_1_0 hs) ?_
    refine q_aload_n o_Tk_advance_21 rfl ?_
    refine q2_getI hs o_Tk_advance_22 f_Tk_24 rfl ?_
    obtain ⟨k60, eh59, bh59, h59⟩ := h58
    refine q2_cald hs o_Tk_advance_25 rfl eh59 bh59 (by decide) ?_
    refine q_bipush (v := 32) o_Tk_advance_26 (by decide) ?_
    refine q_icmp_eq o_Tk_advance_28 (fun c61 => ?_) (fun c61 => ?_)
    · have h62 := h59.1 c61
      refine q_aload_n o_Tk_advance_48 rfl ?_
      refine q_dup o_Tk_advance_49 rfl ?_
      refine q2_getI hs o_Tk_advance_50 f_Tk_24 rfl ?_
      refine q_iconst (v := 1) o_Tk_advance_53 (by decide) ?_
      refine q_iadd o_Tk_advance_54 ?_
      refine q2_putI hs o_Tk_advance_55 fp_Tk_24 rfl rfl rfl ?_
      refine q_goto o_Tk_advance_58 ?_
      exact h62
    · have h63 := h59.2 c61
      refine q_aload_n o_Tk_advance_31 rfl ?_
      refine q2_getR hs o_Tk_advance_32 f_Tk_20 rfl (fz_3_0 hs) ?_
      refine q2_getR hs o_Tk_advance_35 f_Tk_39 rfl (fz_1_0 hs) ?_
      refine q_aload_n o_Tk_advance_38 rfl ?_
      refine q2_getI hs o_Tk_advance_39 f_Tk_24 rfl ?_
      obtain ⟨k65, eh64, bh64, h64⟩ := h63
      refine q2_cald hs o_Tk_advance_42 rfl eh64 bh64 (by decide) ?_
      refine q_bipush (v := 10) o_Tk_advance_43 (by decide) ?_
      refine q_icmp_ne o_Tk_advance_45 (fun c66 => ?_) (fun c66 => ?_)
      · have h67 := h64.1 c66
        refine q_aload_n o_Tk_advance_61 rfl ?_
        refine q_aload_n o_Tk_advance_62 rfl ?_
        refine q2_getI hs o_Tk_advance_63 f_Tk_24 rfl ?_
        refine q2_putI hs o_Tk_advance_66 fp_Tk_43 rfl rfl rfl ?_
        refine q_aload_n o_Tk_advance_69 rfl ?_
        refine q2_getI hs o_Tk_advance_70 f_Tk_24 rfl ?_
        refine q_aload_n o_Tk_advance_73 rfl ?_
        refine q2_getR hs o_Tk_advance_74 f_Tk_20 rfl (fz_3_0 hs) ?_
        refine q2_getI hs o_Tk_advance_77 f_Tk_34 rfl ?_
        refine q_icmp_ge o_Tk_advance_80 (fun c68 => ?_) (fun c68 => ?_)
        · have h69 := h67.1 c68
          refine q_bipush (v := 32) o_Tk_advance_98 (by decide) ?_
          refine q2_istn (ls' := [some (.ref 3), some (.int 32)]) o_Tk_advance_100 (Nat.le_of_ble_eq_true rfl) rfl ?_
          refine q_aload_n o_Tk_advance_101 rfl ?_
          refine q2_getI hs o_Tk_advance_102 f_Tk_24 rfl ?_
          refine q_aload_n o_Tk_advance_105 rfl ?_
          refine q2_getR hs o_Tk_advance_106 f_Tk_20 rfl (fz_3_0 hs) ?_
          refine q2_getI hs o_Tk_advance_109 f_Tk_34 rfl ?_
          refine q_icmp_lt o_Tk_advance_112 (fun c70 => ?_) (fun c70 => ?_)
          · have h71 := h69.1 c70
            refine q_iload_n o_Tk_advance_123 rfl ?_
            refine q_bipush (v := 97) o_Tk_advance_124 (by decide) ?_
            refine q_icmp_lt o_Tk_advance_126 (fun _ => ?_) (fun c72 => absurd c72 (by decide))
            refine q_iload_n o_Tk_advance_142 rfl ?_
            refine q_bipush (v := 48) o_Tk_advance_143 (by decide) ?_
            refine q_icmp_lt o_Tk_advance_145 (fun _ => ?_) (fun c73 => absurd c73 (by decide))
            refine q_aload_n o_Tk_advance_161 rfl ?_
            refine q_iload_n o_Tk_advance_162 rfl ?_
            refine q2_callVv _ (a := 3) (As := [.int 32]) (st := []) hs o_Tk_advance_163 k_Tk_55 rfl rfl (Nat.le_of_ble_eq_true rfl) h71 (fun σ75 hs76 h74 => ?_)
            exact q_vre o_Tk_advance_166 rfl h74
          · have h77 := h69.2 c70
            refine q_aload_n o_Tk_advance_115 rfl ?_
            refine q_iconst (v := 0) o_Tk_advance_116 (by decide) ?_
            refine q2_putI hs o_Tk_advance_117 fp_Tk_46 rfl rfl rfl ?_
            refine q_goto o_Tk_advance_120 ?_
            exact q_vre o_Tk_advance_166 rfl h77
        · have h78 := h67.2 c68
          refine q_aload_n o_Tk_advance_83 rfl ?_
          refine q2_getR hs o_Tk_advance_84 f_Tk_20 rfl (fz_3_0 hs) ?_
          refine q2_getR hs o_Tk_advance_87 f_Tk_39 rfl (fz_1_0 hs) ?_
          refine q_aload_n o_Tk_advance_90 rfl ?_
          refine q2_getI hs o_Tk_advance_91 f_Tk_24 rfl ?_
          obtain ⟨k80, eh79, bh79, h79⟩ := h78
          refine q2_cald hs o_Tk_advance_94 rfl eh79 bh79 (by decide) ?_
          refine q_goto o_Tk_advance_95 ?_
          refine q2_istn (ls' := [some (.ref 3), some (.int (q_I (q_setI σ 3 2 (q_I σ 3 3)) 2 k80))]) o_Tk_advance_100 (Nat.le_of_ble_eq_true rfl) rfl ?_
          refine q_aload_n o_Tk_advance_101 rfl ?_
          refine q2_getI hs o_Tk_advance_102 f_Tk_24 rfl ?_
          refine q_aload_n o_Tk_advance_105 rfl ?_
          refine q2_getR hs o_Tk_advance_106 f_Tk_20 rfl (fz_3_0 hs) ?_
          refine q2_getI hs o_Tk_advance_109 f_Tk_34 rfl ?_
          refine q_icmp_lt o_Tk_advance_112 (fun c81 => ?_) (fun c81 => ?_)
          · have h82 := h79.1 c81
            refine q_iload_n o_Tk_advance_123 rfl ?_
            refine q_bipush (v := 97) o_Tk_advance_124 (by decide) ?_
            refine q_icmp_lt o_Tk_advance_126 (fun c83 => ?_) (fun c83 => ?_)
            · have h84 := h82.1 c83
              refine q_iload_n o_Tk_advance_142 rfl ?_
              refine q_bipush (v := 48) o_Tk_advance_143 (by decide) ?_
              refine q_icmp_lt o_Tk_advance_145 (fun c85 => ?_) (fun c85 => ?_)
              · have h86 := h84.1 c85
                refine q_aload_n o_Tk_advance_161 rfl ?_
                refine q_iload_n o_Tk_advance_162 rfl ?_
                refine q2_callVv _ (a := 3) (As := [.int (q_I (q_setI σ 3 2 (q_I σ 3 3)) 2 k80)]) (st := []) hs o_Tk_advance_163 k_Tk_55 rfl rfl (Nat.le_of_ble_eq_true rfl) h86 (fun σ88 hs89 h87 => ?_)
                exact q_vre o_Tk_advance_166 rfl h87
              · have h90 := h84.2 c85
                refine q_iload_n o_Tk_advance_148 rfl ?_
                refine q_bipush (v := 57) o_Tk_advance_149 (by decide) ?_
                refine q_icmp_gt o_Tk_advance_151 (fun c91 => ?_) (fun c91 => ?_)
                · have h92 := h90.1 c91
                  refine q_aload_n o_Tk_advance_161 rfl ?_
                  refine q_iload_n o_Tk_advance_162 rfl ?_
                  refine q2_callVv _ (a := 3) (As := [.int (q_I (q_setI σ 3 2 (q_I σ 3 3)) 2 k80)]) (st := []) hs o_Tk_advance_163 k_Tk_55 rfl rfl (Nat.le_of_ble_eq_true rfl) h92 (fun σ94 hs95 h93 => ?_)
                  exact q_vre o_Tk_advance_166 rfl h93
                · have h96 := h90.2 c91
                  refine q_aload_n o_Tk_advance_154 rfl ?_
                  refine q2_callVv _ (a := 3) (As := []) (st := []) hs o_Tk_advance_155 k_Tk_52 rfl rfl (Nat.le_of_ble_eq_true rfl) h96 (fun σ98 hs99 h97 => ?_)
                  refine q_goto o_Tk_advance_158 ?_
                  exact q_vre o_Tk_advance_166 rfl h97
            · have h100 := h82.2 c83
              refine q_iload_n o_Tk_advance_129 rfl ?_
              refine q_bipush (v := 122) o_Tk_advance_130 (by decide) ?_
              refine q_icmp_gt o_Tk_advance_132 (fun c101 => ?_) (fun c101 => ?_)
              · have h102 := h100.1 c101
                refine q_iload_n o_Tk_advance_142 rfl ?_
                refine q_bipush (v := 48) o_Tk_advance_143 (by decide) ?_
                refine q_icmp_lt o_Tk_advance_145 (fun c103 => ?_) (fun c103 => ?_)
                · have h104 := h102.1 c103
                  refine q_aload_n o_Tk_advance_161 rfl ?_
                  refine q_iload_n o_Tk_advance_162 rfl ?_
                  refine q2_callVv _ (a := 3) (As := [.int (q_I (q_setI σ 3 2 (q_I σ 3 3)) 2 k80)]) (st := []) hs o_Tk_advance_163 k_Tk_55 rfl rfl (Nat.le_of_ble_eq_true rfl) h104 (fun σ106 hs107 h105 => ?_)
                  exact q_vre o_Tk_advance_166 rfl h105
                · have h108 := h102.2 c103
                  refine q_iload_n o_Tk_advance_148 rfl ?_
                  refine q_bipush (v := 57) o_Tk_advance_149 (by decide) ?_
                  refine q_icmp_gt o_Tk_advance_151 (fun c109 => ?_) (fun c109 => ?_)
                  · have h110 := h108.1 c109
                    refine q_aload_n o_Tk_advance_161 rfl ?_
                    refine q_iload_n o_Tk_advance_162 rfl ?_
                    refine q2_callVv _ (a := 3) (As := [.int (q_I (q_setI σ 3 2 (q_I σ 3 3)) 2 k80)]) (st := []) hs o_Tk_advance_163 k_Tk_55 rfl rfl (Nat.le_of_ble_eq_true rfl) h110 (fun σ112 hs113 h111 => ?_)
                    exact q_vre o_Tk_advance_166 rfl h111
                  · have h114 := h108.2 c109
                    refine q_aload_n o_Tk_advance_154 rfl ?_
                    refine q2_callVv _ (a := 3) (As := []) (st := []) hs o_Tk_advance_155 k_Tk_52 rfl rfl (Nat.le_of_ble_eq_true rfl) h114 (fun σ116 hs117 h115 => ?_)
                    refine q_goto o_Tk_advance_158 ?_
                    exact q_vre o_Tk_advance_166 rfl h115
              · have h118 := h100.2 c101
                refine q_aload_n o_Tk_advance_135 rfl ?_
                refine q2_callVv _ (a := 3) (As := []) (st := []) hs o_Tk_advance_136 k_Tk_49 rfl rfl (Nat.le_of_ble_eq_true rfl) h118 (fun σ120 hs121 h119 => ?_)
                refine q_goto o_Tk_advance_139 ?_
                exact q_vre o_Tk_advance_166 rfl h119
          · have h122 := h79.2 c81
            refine q_aload_n o_Tk_advance_115 rfl ?_
            refine q_iconst (v := 0) o_Tk_advance_116 (by decide) ?_
            refine q2_putI hs o_Tk_advance_117 fp_Tk_46 rfl rfl rfl ?_
            refine q_goto o_Tk_advance_120 ?_
            exact q_vre o_Tk_advance_166 rfl h122
      · have h123 := h64.2 c66
        refine q_aload_n o_Tk_advance_48 rfl ?_
        refine q_dup o_Tk_advance_49 rfl ?_
        refine q2_getI hs o_Tk_advance_50 f_Tk_24 rfl ?_
        refine q_iconst (v := 1) o_Tk_advance_53 (by decide) ?_
        refine q_iadd o_Tk_advance_54 ?_
        refine q2_putI hs o_Tk_advance_55 fp_Tk_24 rfl rfl rfl ?_
        refine q_goto o_Tk_advance_58 ?_
        exact h123

set_option maxRecDepth 20000 in
theorem v_Tk_readWord_0 {G : q_G} {d : Nat} {σ : q_S} {Q : Option Value → q_S → Prop}   (hs : q_Sh σ) (h : q_At G X_Tk_readWord d 0 0 5 [some (.ref 3), none] [] (q_setL σ 3 5 0) Q) : q_At G X_Tk_readWord d 0 0 0 [some (.ref 3), none] [] σ Q := by
  refine q_aload_n o_Tk_readWord_0 rfl ?_
  refine q_lconst (v := 0) o_Tk_readWord_1 (by decide) ?_
  refine q2_putL hs o_Tk_readWord_2 fp_Tk_59 rfl rfl rfl ?_
  exact h

set_option maxRecDepth 20000 in
theorem v_Tk_readWord_5 {G : q_G} {d : Nat} {σ : q_S} {Q : Option Value → q_S → Prop}   (hs : q_Sh σ) (h : (((q_I σ 1 1) ≤ (q_I σ 3 3) → q_At G X_Tk_readWord d 0 0 129 [some (.ref 3), some (.int 0)] [] (q_setR (q_setI σ 3 1 (if 8 < ((q_I σ 3 3) - (q_I σ 3 2)) then (4 : Int32) else (1 : Int32))) 3 4 (some (1001 + 33))) Q) ∧ (¬ (q_I σ 1 1) ≤ (q_I σ 3 3) → (∃ k6, (q_I σ 3 3) = nI k6 ∧ k6 < 1000 ∧ (((q_I σ 2 k6) < 97 → q_At G X_Tk_readWord d 0 0 129 [some (.ref 3), some (.int 0)] [] (q_setR (q_setI σ 3 1 (if 8 < ((q_I σ 3 3) - (q_I σ 3 2)) then (4 : Int32) else (1 : Int32))) 3 4 (some (1001 + 33))) Q) ∧ (¬ (q_I σ 2 k6) < 97 → (∃ k12, (q_I σ 3 3) = nI k12 ∧ k12 < 1000 ∧ ((122 < (q_I σ 2 k12) → q_At G X_Tk_readWord d 0 0 129 [some (.ref 3), some (.int 0)] [] (q_setR (q_setI σ 3 1 (if 8 < ((q_I σ 3 3) - (q_I σ 3 2)) then (4 : Int32) else (1 : Int32))) 3 4 (some (1001 + 33))) Q) ∧ (¬ 122 < (q_I σ 2 k12) → (∃ k18, (q_I σ 3 3) = nI k18 ∧ k18 < 1000 ∧ q_At G X_Tk_readWord d 0 0 5 [some (.ref 3), none] [] (q_setI (q_setL σ 3 5 (((q_L σ 3 5) * 32) + (((q_I σ 2 k18) - 97) + 1).toInt64)) 3 3 ((q_I (q_setL σ 3 5 (((q_L σ 3 5) * 32) + (((q_I σ 2 k18) - 97) + 1).toInt64)) 3 3) + 1)) Q)))))))))) : q_At G X_Tk_readWord d 0 0 5 [some (.ref 3), none] [] σ Q := by
  refine q_aload_n o_Tk_readWord_5 rfl ?_
  refine q2_getI hs o_Tk_readWord_6 f_Tk_24 rfl ?_
  refine q_aload_n o_Tk_readWord_9 rfl ?_
  refine q2_getR hs o_Tk_readWord_10 f_Tk_20 rfl (fz_3_0 hs) ?_
  refine q2_getI hs o_Tk_readWord_13 f_Tk_34 rfl ?_
  refine q_icmp_ge o_Tk_readWord_16 (fun c1 => ?_) (fun c1 => ?_)
  · have h2 := h.1 c1
    refine q_aload_n o_Tk_readWord_97 rfl ?_
    refine q_aload_n o_Tk_readWord_98 rfl ?_
    refine q2_getI hs o_Tk_readWord_99 f_Tk_24 rfl ?_
    refine q_aload_n o_Tk_readWord_102 rfl ?_
    refine q2_getI hs o_Tk_readWord_103 f_Tk_43 rfl ?_
    refine q_isub o_Tk_readWord_106 ?_
    refine q_bipush (v := 8) o_Tk_readWord_107 (by decide) ?_
    have hJ : ∀ vJ : Int32, vJ = (if 8 < ((q_I σ 3 3) - (q_I σ 3 2)) then (4 : Int32) else (1 : Int32)) → q_At G X_Tk_readWord d 0 0 117 [some (.ref 3), none] [.int vJ, .ref 3] σ Q := by
      intro vJ eJ
      rw [eJ]
      clear eJ vJ
      refine q2_putI hs o_Tk_readWord_117 fp_Tk_46 rfl rfl rfl ?_
      refine q_aload_n o_Tk_readWord_120 rfl ?_
      refine q_gets (w := .ref (1001 + 33)) o_Tk_readWord_121 s_Tk_9 (fun U H hh => (hh.1 33 (by decide)).1) ?_
      refine q2_putR hs o_Tk_readWord_124 fp_Tk_15 rfl (fun _ => rfl) (fun _ => rfl) ?_
      refine q_iconst (v := 0) o_Tk_readWord_127 (by decide) ?_
      refine q2_istn (ls' := [some (.ref 3), some (.int 0)]) o_Tk_readWord_128 (Nat.le_of_ble_eq_true rfl) rfl ?_
      exact h2
    refine q_icmp_gt o_Tk_readWord_109 (fun c3 => ?_) (fun c3 => ?_)
    · refine q_iconst (v := 4) o_Tk_readWord_116 (by decide) ?_
      exact hJ _ (Eq.symm (if_pos c3))
    · refine q_iconst (v := 1) o_Tk_readWord_112 (by decide) ?_
      refine q_goto o_Tk_readWord_113 ?_
      exact hJ _ (Eq.symm (if_neg c3))
  · have h4 := h.2 c1
    refine q_aload_n o_Tk_readWord_19 rfl ?_
    refine q2_getR hs o_Tk_readWord_20 f_Tk_20 rfl (fz_3_0 hs) ?_
    refine q2_getR hs o_Tk_readWord_23 f_Tk_39 rfl (fz_1_0 hs) ?_
    refine q_aload_n o_Tk_readWord_26 rfl ?_
    refine q2_getI hs o_Tk_readWord_27 f_Tk_24 rfl ?_
    obtain ⟨k6, eh5, bh5, h5⟩ := h4
    refine q2_cald hs o_Tk_readWord_30 rfl eh5 bh5 (by decide) ?_
    refine q_bipush (v := 97) o_Tk_readWord_31 (by decide) ?_
    refine q_icmp_lt o_Tk_readWord_33 (fun c7 => ?_) (fun c7 => ?_)
    · have h8 := h5.1 c7
      refine q_aload_n o_Tk_readWord_97 rfl ?_
      refine q_aload_n o_Tk_readWord_98 rfl ?_
      refine q2_getI hs o_Tk_readWord_99 f_Tk_24 rfl ?_
      refine q_aload_n o_Tk_readWord_102 rfl ?_
      refine q2_getI hs o_Tk_readWord_103 f_Tk_43 rfl ?_
      refine q_isub o_Tk_readWord_106 ?_
      refine q_bipush (v := 8) o_Tk_readWord_107 (by decide) ?_
      have hJ : ∀ vJ : Int32, vJ = (if 8 < ((q_I σ 3 3) - (q_I σ 3 2)) then (4 : Int32) else (1 : Int32)) → q_At G X_Tk_readWord d 0 0 117 [some (.ref 3), none] [.int vJ, .ref 3] σ Q := by
        intro vJ eJ
        rw [eJ]
        clear eJ vJ
        refine q2_putI hs o_Tk_readWord_117 fp_Tk_46 rfl rfl rfl ?_
        refine q_aload_n o_Tk_readWord_120 rfl ?_
        refine q_gets (w := .ref (1001 + 33)) o_Tk_readWord_121 s_Tk_9 (fun U H hh => (hh.1 33 (by decide)).1) ?_
        refine q2_putR hs o_Tk_readWord_124 fp_Tk_15 rfl (fun _ => rfl) (fun _ => rfl) ?_
        refine q_iconst (v := 0) o_Tk_readWord_127 (by decide) ?_
        refine q2_istn (ls' := [some (.ref 3), some (.int 0)]) o_Tk_readWord_128 (Nat.le_of_ble_eq_true rfl) rfl ?_
        exact h8
      refine q_icmp_gt o_Tk_readWord_109 (fun c9 => ?_) (fun c9 => ?_)
      · refine q_iconst (v := 4) o_Tk_readWord_116 (by decide) ?_
        exact hJ _ (Eq.symm (if_pos c9))
      · refine q_iconst (v := 1) o_Tk_readWord_112 (by decide) ?_
        refine q_goto o_Tk_readWord_113 ?_
        exact hJ _ (Eq.symm (if_neg c9))
    · have h10 := h5.2 c7
      refine q_aload_n o_Tk_readWord_36 rfl ?_
      refine q2_getR hs o_Tk_readWord_37 f_Tk_20 rfl (fz_3_0 hs) ?_
      refine q2_getR hs o_Tk_readWord_40 f_Tk_39 rfl (fz_1_0 hs) ?_
      refine q_aload_n o_Tk_readWord_43 rfl ?_
      refine q2_getI hs o_Tk_readWord_44 f_Tk_24 rfl ?_
      obtain ⟨k12, eh11, bh11, h11⟩ := h10
      refine q2_cald hs o_Tk_readWord_47 rfl eh11 bh11 (by decide) ?_
      refine q_bipush (v := 122) o_Tk_readWord_48 (by decide) ?_
      refine q_icmp_gt o_Tk_readWord_50 (fun c13 => ?_) (fun c13 => ?_)
      · have h14 := h11.1 c13
        refine q_aload_n o_Tk_readWord_97 rfl ?_
        refine q_aload_n o_Tk_readWord_98 rfl ?_
        refine q2_getI hs o_Tk_readWord_99 f_Tk_24 rfl ?_
        refine q_aload_n o_Tk_readWord_102 rfl ?_
        refine q2_getI hs o_Tk_readWord_103 f_Tk_43 rfl ?_
        refine q_isub o_Tk_readWord_106 ?_
        refine q_bipush (v := 8) o_Tk_readWord_107 (by decide) ?_
        have hJ : ∀ vJ : Int32, vJ = (if 8 < ((q_I σ 3 3) - (q_I σ 3 2)) then (4 : Int32) else (1 : Int32)) → q_At G X_Tk_readWord d 0 0 117 [some (.ref 3), none] [.int vJ, .ref 3] σ Q := by
          intro vJ eJ
          rw [eJ]
          clear eJ vJ
          refine q2_putI hs o_Tk_readWord_117 fp_Tk_46 rfl rfl rfl ?_
          refine q_aload_n o_Tk_readWord_120 rfl ?_
          refine q_gets (w := .ref (1001 + 33)) o_Tk_readWord_121 s_Tk_9 (fun U H hh => (hh.1 33 (by decide)).1) ?_
          refine q2_putR hs o_Tk_readWord_124 fp_Tk_15 rfl (fun _ => rfl) (fun _ => rfl) ?_
          refine q_iconst (v := 0) o_Tk_readWord_127 (by decide) ?_
          refine q2_istn (ls' := [some (.ref 3), some (.int 0)]) o_Tk_readWord_128 (Nat.le_of_ble_eq_true rfl) rfl ?_
          exact h14
        refine q_icmp_gt o_Tk_readWord_109 (fun c15 => ?_) (fun c15 => ?_)
        · refine q_iconst (v := 4) o_Tk_readWord_116 (by decide) ?_
          exact hJ _ (Eq.symm (if_pos c15))
        · refine q_iconst (v := 1) o_Tk_readWord_112 (by decide) ?_
          refine q_goto o_Tk_readWord_113 ?_
          exact hJ _ (Eq.symm (if_neg c15))
      · have h16 := h11.2 c13
        refine q_aload_n o_Tk_readWord_53 rfl ?_
        refine q_aload_n o_Tk_readWord_54 rfl ?_
        refine q2_getL hs o_Tk_readWord_55 f_Tk_59 rfl ?_
        refine q_ldc2 o_Tk_readWord_58 n_Tk_63 ?_
        refine q_lmul o_Tk_readWord_61 ?_
        refine q_aload_n o_Tk_readWord_62 rfl ?_
        refine q2_getR hs o_Tk_readWord_63 f_Tk_20 rfl (fz_3_0 hs) ?_
        refine q2_getR hs o_Tk_readWord_66 f_Tk_39 rfl (fz_1_0 hs) ?_
        refine q_aload_n o_Tk_readWord_69 rfl ?_
        refine q2_getI hs o_Tk_readWord_70 f_Tk_24 rfl ?_
        obtain ⟨k18, eh17, bh17, h17⟩ := h16
        refine q2_cald hs o_Tk_readWord_73 rfl eh17 bh17 (by decide) ?_
        refine q_bipush (v := 97) o_Tk_readWord_74 (by decide) ?_
        refine q_isub o_Tk_readWord_76 ?_
        refine q_iconst (v := 1) o_Tk_readWord_77 (by decide) ?_
        refine q_iadd o_Tk_readWord_78 ?_
        refine q_i2l o_Tk_readWord_79 ?_
        refine q_ladd o_Tk_readWord_80 ?_
        refine q2_putL hs o_Tk_readWord_81 fp_Tk_59 rfl rfl rfl ?_
        refine q_aload_n o_Tk_readWord_84 rfl ?_
        refine q_dup o_Tk_readWord_85 rfl ?_
        refine q2_getI hs o_Tk_readWord_86 f_Tk_24 rfl ?_
        refine q_iconst (v := 1) o_Tk_readWord_89 (by decide) ?_
        refine q_iadd o_Tk_readWord_90 ?_
        refine q2_putI hs o_Tk_readWord_91 fp_Tk_24 rfl rfl rfl ?_
        refine q_goto o_Tk_readWord_94 ?_
        exact h17

set_option maxRecDepth 20000 in
theorem v_Tk_readWord_129 {G : q_G} {d : Nat} {σ : q_S} {Q : Option Value → q_S → Prop} {l1 : Int32}  (hs : q_Sh σ) (h : (((nI 34) ≤ l1 → Q none σ) ∧ (¬ (nI 34) ≤ l1 → (∃ k5, l1 = nI k5 ∧ k5 < 34 ∧ ((¬ (lg_cmp (q_wl64.getD k5 0) (q_L σ 3 5)) = 0 → q_At G X_Tk_readWord d 0 0 129 [some (.ref 3), some (.int (l1 + 1))] [] σ Q) ∧ ((lg_cmp (q_wl64.getD k5 0) (q_L σ 3 5)) = 0 → (∃ k10, l1 = nI k10 ∧ k10 < 34 ∧ q_At G X_Tk_readWord d 0 0 129 [some (.ref 3), some (.int (l1 + 1))] [] (q_setR σ 3 4 (some (1001 + k10))) Q))))))) : q_At G X_Tk_readWord d 0 0 129 [some (.ref 3), some (.int l1)] [] σ Q := by
  refine q_iload_n o_Tk_readWord_129 rfl ?_
  refine q_gets (w := .ref 1040) o_Tk_readWord_130 s_Tk_65 (fun U H hh => hh.2.2.1.1) ?_
  refine q_tlen o_Tk_readWord_133 (fun U H hh => hh.2.2.1.2) ?_
  refine q_icmp_ge o_Tk_readWord_134 (fun c1 => ?_) (fun c1 => ?_)
  · have h2 := h.1 c1
    exact q_vre o_Tk_readWord_168 rfl h2
  · have h3 := h.2 c1
    refine q_gets (w := .ref 1040) o_Tk_readWord_137 s_Tk_65 (fun U H hh => hh.2.2.1.1) ?_
    refine q_iload_n o_Tk_readWord_140 rfl ?_
    obtain ⟨k5, eh4, bh4, h4⟩ := h3
    refine q_tq (w := .ref (1001 + k5)) o_Tk_readWord_141 (fun U H hh => hh.2.2.1.2) eh4 bh4 (by decide) (by show _ = Value.ref _; rw [q_ad_ge (by omega)]) ?_
    refine q_getS (w := .long (q_wl64.getD k5 0)) o_Tk_readWord_142 fs_Tk_69 (fun U H hh => by rw [q_ad_ge (by omega)]; exact (hh.1 _ bh4).2.2.2.1) ?_
    refine q_aload_n o_Tk_readWord_145 rfl ?_
    refine q2_getL hs o_Tk_readWord_146 f_Tk_59 rfl ?_
    refine q_lcmp o_Tk_readWord_149 ?_
    refine q_if_ne o_Tk_readWord_150 (fun c6 => ?_) (fun c6 => ?_)
    · have h7 := h4.1 c6
      refine q2_inc (v := (l1 + 1)) (ls' := [some (.ref 3), some (.int (l1 + 1))]) o_Tk_readWord_162 rfl rfl (Nat.le_of_ble_eq_true rfl) rfl ?_
      refine q_goto o_Tk_readWord_165 ?_
      exact h7
    · have h8 := h4.2 c6
      refine q_aload_n o_Tk_readWord_153 rfl ?_
      refine q_gets (w := .ref 1040) o_Tk_readWord_154 s_Tk_65 (fun U H hh => hh.2.2.1.1) ?_
      refine q_iload_n o_Tk_readWord_157 rfl ?_
      obtain ⟨k10, eh9, bh9, h9⟩ := h8
      refine q_tq (w := .ref (1001 + k10)) o_Tk_readWord_158 (fun U H hh => hh.2.2.1.2) eh9 bh9 (by decide) (by show _ = Value.ref _; rw [q_ad_ge (by omega)]) ?_
      refine q2_putR hs o_Tk_readWord_159 fp_Tk_15 rfl (fun _ => rfl) (fun _ => rfl) ?_
      refine q2_inc (v := (l1 + 1)) (ls' := [some (.ref 3), some (.int (l1 + 1))]) o_Tk_readWord_162 rfl rfl (Nat.le_of_ble_eq_true rfl) rfl ?_
      refine q_goto o_Tk_readWord_165 ?_
      exact h9

set_option maxRecDepth 20000 in
theorem v_Tk_readNumber_0 {G : q_G} {d : Nat} {σ : q_S} {Q : Option Value → q_S → Prop}   (hs : q_Sh σ) (h : q_At G X_Tk_readNumber d 0 0 5 [some (.ref 3)] [] (q_setI σ 3 6 0) Q) : q_At G X_Tk_readNumber d 0 0 0 [some (.ref 3)] [] σ Q := by
  refine q_aload_n o_Tk_readNumber_0 rfl ?_
  refine q_iconst (v := 0) o_Tk_readNumber_1 (by decide) ?_
  refine q2_putI hs o_Tk_readNumber_2 fp_Tk_70 rfl rfl rfl ?_
  exact h

set_option maxRecDepth 20000 in
theorem v_Tk_readNumber_5 {G : q_G} {d : Nat} {σ : q_S} {Q : Option Value → q_S → Prop}   (hs : q_Sh σ) (h : (((q_I σ 1 1) ≤ (q_I σ 3 3) → Q none (q_setI σ 3 1 (if 4 < ((q_I σ 3 3) - (q_I σ 3 2)) then (4 : Int32) else (2 : Int32)))) ∧ (¬ (q_I σ 1 1) ≤ (q_I σ 3 3) → (∃ k6, (q_I σ 3 3) = nI k6 ∧ k6 < 1000 ∧ (((q_I σ 2 k6) < 48 → Q none (q_setI σ 3 1 (if 4 < ((q_I σ 3 3) - (q_I σ 3 2)) then (4 : Int32) else (2 : Int32)))) ∧ (¬ (q_I σ 2 k6) < 48 → (∃ k12, (q_I σ 3 3) = nI k12 ∧ k12 < 1000 ∧ ((57 < (q_I σ 2 k12) → Q none (q_setI σ 3 1 (if 4 < ((q_I σ 3 3) - (q_I σ 3 2)) then (4 : Int32) else (2 : Int32)))) ∧ (¬ 57 < (q_I σ 2 k12) → (∃ k18, (q_I σ 3 3) = nI k18 ∧ k18 < 1000 ∧ q_At G X_Tk_readNumber d 0 0 5 [some (.ref 3)] [] (q_setI (q_setI σ 3 6 (((q_I σ 3 6) * 10) + ((q_I σ 2 k18) - 48))) 3 3 ((q_I (q_setI σ 3 6 (((q_I σ 3 6) * 10) + ((q_I σ 2 k18) - 48))) 3 3) + 1)) Q)))))))))) : q_At G X_Tk_readNumber d 0 0 5 [some (.ref 3)] [] σ Q := by
  refine q_aload_n o_Tk_readNumber_5 rfl ?_
  refine q2_getI hs o_Tk_readNumber_6 f_Tk_24 rfl ?_
  refine q_aload_n o_Tk_readNumber_9 rfl ?_
  refine q2_getR hs o_Tk_readNumber_10 f_Tk_20 rfl (fz_3_0 hs) ?_
  refine q2_getI hs o_Tk_readNumber_13 f_Tk_34 rfl ?_
  refine q_icmp_ge o_Tk_readNumber_16 (fun c1 => ?_) (fun c1 => ?_)
  · have h2 := h.1 c1
    refine q_aload_n o_Tk_readNumber_93 rfl ?_
    refine q_aload_n o_Tk_readNumber_94 rfl ?_
    refine q2_getI hs o_Tk_readNumber_95 f_Tk_24 rfl ?_
    refine q_aload_n o_Tk_readNumber_98 rfl ?_
    refine q2_getI hs o_Tk_readNumber_99 f_Tk_43 rfl ?_
    refine q_isub o_Tk_readNumber_102 ?_
    refine q_iconst (v := 4) o_Tk_readNumber_103 (by decide) ?_
    have hJ : ∀ vJ : Int32, vJ = (if 4 < ((q_I σ 3 3) - (q_I σ 3 2)) then (4 : Int32) else (2 : Int32)) → q_At G X_Tk_readNumber d 0 0 112 [some (.ref 3)] [.int vJ, .ref 3] σ Q := by
      intro vJ eJ
      rw [eJ]
      clear eJ vJ
      refine q2_putI hs o_Tk_readNumber_112 fp_Tk_46 rfl rfl rfl ?_
      exact q_vre o_Tk_readNumber_115 rfl h2
    refine q_icmp_gt o_Tk_readNumber_104 (fun c3 => ?_) (fun c3 => ?_)
    · refine q_iconst (v := 4) o_Tk_readNumber_111 (by decide) ?_
      exact hJ _ (Eq.symm (if_pos c3))
    · refine q_iconst (v := 2) o_Tk_readNumber_107 (by decide) ?_
      refine q_goto o_Tk_readNumber_108 ?_
      exact hJ _ (Eq.symm (if_neg c3))
  · have h4 := h.2 c1
    refine q_aload_n o_Tk_readNumber_19 rfl ?_
    refine q2_getR hs o_Tk_readNumber_20 f_Tk_20 rfl (fz_3_0 hs) ?_
    refine q2_getR hs o_Tk_readNumber_23 f_Tk_39 rfl (fz_1_0 hs) ?_
    refine q_aload_n o_Tk_readNumber_26 rfl ?_
    refine q2_getI hs o_Tk_readNumber_27 f_Tk_24 rfl ?_
    obtain ⟨k6, eh5, bh5, h5⟩ := h4
    refine q2_cald hs o_Tk_readNumber_30 rfl eh5 bh5 (by decide) ?_
    refine q_bipush (v := 48) o_Tk_readNumber_31 (by decide) ?_
    refine q_icmp_lt o_Tk_readNumber_33 (fun c7 => ?_) (fun c7 => ?_)
    · have h8 := h5.1 c7
      refine q_aload_n o_Tk_readNumber_93 rfl ?_
      refine q_aload_n o_Tk_readNumber_94 rfl ?_
      refine q2_getI hs o_Tk_readNumber_95 f_Tk_24 rfl ?_
      refine q_aload_n o_Tk_readNumber_98 rfl ?_
      refine q2_getI hs o_Tk_readNumber_99 f_Tk_43 rfl ?_
      refine q_isub o_Tk_readNumber_102 ?_
      refine q_iconst (v := 4) o_Tk_readNumber_103 (by decide) ?_
      have hJ : ∀ vJ : Int32, vJ = (if 4 < ((q_I σ 3 3) - (q_I σ 3 2)) then (4 : Int32) else (2 : Int32)) → q_At G X_Tk_readNumber d 0 0 112 [some (.ref 3)] [.int vJ, .ref 3] σ Q := by
        intro vJ eJ
        rw [eJ]
        clear eJ vJ
        refine q2_putI hs o_Tk_readNumber_112 fp_Tk_46 rfl rfl rfl ?_
        exact q_vre o_Tk_readNumber_115 rfl h8
      refine q_icmp_gt o_Tk_readNumber_104 (fun c9 => ?_) (fun c9 => ?_)
      · refine q_iconst (v := 4) o_Tk_readNumber_111 (by decide) ?_
        exact hJ _ (Eq.symm (if_pos c9))
      · refine q_iconst (v := 2) o_Tk_readNumber_107 (by decide) ?_
        refine q_goto o_Tk_readNumber_108 ?_
        exact hJ _ (Eq.symm (if_neg c9))
    · have h10 := h5.2 c7
      refine q_aload_n o_Tk_readNumber_36 rfl ?_
      refine q2_getR hs o_Tk_readNumber_37 f_Tk_20 rfl (fz_3_0 hs) ?_
      refine q2_getR hs o_Tk_readNumber_40 f_Tk_39 rfl (fz_1_0 hs) ?_
      refine q_aload_n o_Tk_readNumber_43 rfl ?_
      refine q2_getI hs o_Tk_readNumber_44 f_Tk_24 rfl ?_
      obtain ⟨k12, eh11, bh11, h11⟩ := h10
      refine q2_cald hs o_Tk_readNumber_47 rfl eh11 bh11 (by decide) ?_
      refine q_bipush (v := 57) o_Tk_readNumber_48 (by decide) ?_
      refine q_icmp_gt o_Tk_readNumber_50 (fun c13 => ?_) (fun c13 => ?_)
      · have h14 := h11.1 c13
        refine q_aload_n o_Tk_readNumber_93 rfl ?_
        refine q_aload_n o_Tk_readNumber_94 rfl ?_
        refine q2_getI hs o_Tk_readNumber_95 f_Tk_24 rfl ?_
        refine q_aload_n o_Tk_readNumber_98 rfl ?_
        refine q2_getI hs o_Tk_readNumber_99 f_Tk_43 rfl ?_
        refine q_isub o_Tk_readNumber_102 ?_
        refine q_iconst (v := 4) o_Tk_readNumber_103 (by decide) ?_
        have hJ : ∀ vJ : Int32, vJ = (if 4 < ((q_I σ 3 3) - (q_I σ 3 2)) then (4 : Int32) else (2 : Int32)) → q_At G X_Tk_readNumber d 0 0 112 [some (.ref 3)] [.int vJ, .ref 3] σ Q := by
          intro vJ eJ
          rw [eJ]
          clear eJ vJ
          refine q2_putI hs o_Tk_readNumber_112 fp_Tk_46 rfl rfl rfl ?_
          exact q_vre o_Tk_readNumber_115 rfl h14
        refine q_icmp_gt o_Tk_readNumber_104 (fun c15 => ?_) (fun c15 => ?_)
        · refine q_iconst (v := 4) o_Tk_readNumber_111 (by decide) ?_
          exact hJ _ (Eq.symm (if_pos c15))
        · refine q_iconst (v := 2) o_Tk_readNumber_107 (by decide) ?_
          refine q_goto o_Tk_readNumber_108 ?_
          exact hJ _ (Eq.symm (if_neg c15))
      · have h16 := h11.2 c13
        refine q_aload_n o_Tk_readNumber_53 rfl ?_
        refine q_aload_n o_Tk_readNumber_54 rfl ?_
        refine q2_getI hs o_Tk_readNumber_55 f_Tk_70 rfl ?_
        refine q_bipush (v := 10) o_Tk_readNumber_58 (by decide) ?_
        refine q_imul o_Tk_readNumber_60 ?_
        refine q_aload_n o_Tk_readNumber_61 rfl ?_
        refine q2_getR hs o_Tk_readNumber_62 f_Tk_20 rfl (fz_3_0 hs) ?_
        refine q2_getR hs o_Tk_readNumber_65 f_Tk_39 rfl (fz_1_0 hs) ?_
        refine q_aload_n o_Tk_readNumber_68 rfl ?_
        refine q2_getI hs o_Tk_readNumber_69 f_Tk_24 rfl ?_
        obtain ⟨k18, eh17, bh17, h17⟩ := h16
        refine q2_cald hs o_Tk_readNumber_72 rfl eh17 bh17 (by decide) ?_
        refine q_bipush (v := 48) o_Tk_readNumber_73 (by decide) ?_
        refine q_isub o_Tk_readNumber_75 ?_
        refine q_iadd o_Tk_readNumber_76 ?_
        refine q2_putI hs o_Tk_readNumber_77 fp_Tk_70 rfl rfl rfl ?_
        refine q_aload_n o_Tk_readNumber_80 rfl ?_
        refine q_dup o_Tk_readNumber_81 rfl ?_
        refine q2_getI hs o_Tk_readNumber_82 f_Tk_24 rfl ?_
        refine q_iconst (v := 1) o_Tk_readNumber_85 (by decide) ?_
        refine q_iadd o_Tk_readNumber_86 ?_
        refine q2_putI hs o_Tk_readNumber_87 fp_Tk_24 rfl rfl rfl ?_
        refine q_goto o_Tk_readNumber_90 ?_
        exact h17

set_option maxRecDepth 20000 in
theorem v_Tk_readSign_0 {G : q_G} {d : Nat} {σ : q_S} {Q : Option Value → q_S → Prop} {p0 : Int32}  (hs : q_Sh σ) (h : (narrow .char (.int p0) = .int p0 ∧ fits .char (.int p0) = true ∧ Q none (q_setI (q_setI (q_setI σ 3 7 p0) 3 1 (if (q_ixs p0) < 0 then (4 : Int32) else (3 : Int32))) 3 3 ((q_I (q_setI (q_setI σ 3 7 p0) 3 1 (if (q_ixs p0) < 0 then (4 : Int32) else (3 : Int32))) 3 3) + 1)))) : q_At G X_Tk_readSign (d + 5) 0 0 0 [some (.ref 3), some (.int p0)] [] σ Q := by
  refine q_aload_n o_Tk_readSign_0 rfl ?_
  refine q_iload_n o_Tk_readSign_1 rfl ?_
  obtain ⟨nh1, fh1, h1⟩ := h
  refine q2_putI hs o_Tk_readSign_2 fp_Tk_73 rfl nh1 fh1 ?_
  refine q_aload_n o_Tk_readSign_5 rfl ?_
  refine q_ldcS o_Tk_readSign_6 rfl ?_
  refine q_iload_n o_Tk_readSign_8 rfl ?_
  refine q2_ixs hs o_Tk_readSign_9 k_Tk_79 (Nat.le_of_ble_eq_true rfl) ?_
  have hJ : ∀ vJ : Int32, vJ = (if (q_ixs p0) < 0 then (4 : Int32) else (3 : Int32)) → q_At G X_Tk_readSign (d + 5) 0 0 20 [some (.ref 3), some (.int p0)] [.int vJ, .ref 3] (q_setI σ 3 7 p0) Q := by
    intro vJ eJ
    rw [eJ]
    clear eJ vJ
    refine q2_putI hs o_Tk_readSign_20 fp_Tk_46 rfl rfl rfl ?_
    refine q_aload_n o_Tk_readSign_23 rfl ?_
    refine q_dup o_Tk_readSign_24 rfl ?_
    refine q2_getI hs o_Tk_readSign_25 f_Tk_24 rfl ?_
    refine q_iconst (v := 1) o_Tk_readSign_28 (by decide) ?_
    refine q_iadd o_Tk_readSign_29 ?_
    refine q2_putI hs o_Tk_readSign_30 fp_Tk_24 rfl rfl rfl ?_
    exact q_vre o_Tk_readSign_33 rfl h1
  refine q_if_lt o_Tk_readSign_12 (fun c2 => ?_) (fun c2 => ?_)
  · refine q_iconst (v := 4) o_Tk_readSign_19 (by decide) ?_
    exact hJ _ (Eq.symm (if_pos c2))
  · refine q_iconst (v := 3) o_Tk_readSign_15 (by decide) ?_
    refine q_goto o_Tk_readSign_16 ?_
    exact hJ _ (Eq.symm (if_neg c2))

set_option maxRecDepth 20000 in
theorem v_Tk_refuse_0 {G : q_G} {d : Nat} {σ : q_S} {Q : Option Value → q_S → Prop} {p0 : Int32}  (hs : q_Sh σ) (h : Q (some (.int 0)) (q_setI σ 3 9 (p0 + (16 * (q_I σ 3 2))))) : q_At G X_Tk_refuse d 0 0 0 [some (.ref 3), some (.int p0)] [] σ Q := by
  refine q_aload_n o_Tk_refuse_0 rfl ?_
  refine q_iload_n o_Tk_refuse_1 rfl ?_
  refine q_bipush (v := 16) o_Tk_refuse_2 (by decide) ?_
  refine q_aload_n o_Tk_refuse_4 rfl ?_
  refine q2_getI hs o_Tk_refuse_5 f_Tk_43 rfl ?_
  refine q_imul o_Tk_refuse_8 ?_
  refine q_iadd o_Tk_refuse_9 ?_
  refine q2_putI hs o_Tk_refuse_10 fp_Tk_28 rfl rfl rfl ?_
  refine q_iconst (v := 0) o_Tk_refuse_13 (by decide) ?_
  exact q_zre o_Tk_refuse_14 rfl rfl h

set_option maxRecDepth 20000 in
theorem v_Tk_isName_0 {G : q_G} {d : Nat} {σ : q_S} {Q : Option Value → q_S → Prop}   (hs : q_Sh σ) (h : ((¬ (q_I σ 3 1) = 1 → Q (some (.int 0)) σ) ∧ ((q_I σ 3 1) = 1 → (∃ k5, q_R σ 3 4 = some (1001 + k5) ∧ k5 < 34 ∧ (narrow .boolean (.int (if (q_wcn.getD k5 0) = 0 then (0 : Int32) else (1 : Int32))) = .int (if (q_wcn.getD k5 0) = 0 then (0 : Int32) else (1 : Int32)) ∧ Q (some (.int (if (q_wcn.getD k5 0) = 0 then (0 : Int32) else (1 : Int32)))) σ))))) : q_At G X_Tk_isName d 0 0 0 [some (.ref 3)] [] σ Q := by
  refine q_aload_n o_Tk_isName_0 rfl ?_
  refine q2_getI hs o_Tk_isName_1 f_Tk_46 rfl ?_
  refine q_iconst (v := 1) o_Tk_isName_4 (by decide) ?_
  refine q_icmp_ne o_Tk_isName_5 (fun c1 => ?_) (fun c1 => ?_)
  · have h2 := h.1 c1
    refine q_iconst (v := 0) o_Tk_isName_22 (by decide) ?_
    exact q_zre o_Tk_isName_23 rfl rfl h2
  · have h3 := h.2 c1
    refine q_aload_n o_Tk_isName_8 rfl ?_
    obtain ⟨k5, eh4, bh4, h4⟩ := h3
    refine q2_getR hs o_Tk_isName_9 f_Tk_15 rfl eh4 ?_
    refine q_getS (w := .int (q_wcn.getD k5 0)) o_Tk_isName_12 fs_Tk_85 (fun U H hh => by rw [q_ad_ge (by omega)]; exact (hh.1 _ bh4).2.2.2.2) ?_
    have hJ : ∀ vJ : Int32, vJ = (if (q_wcn.getD k5 0) = 0 then (0 : Int32) else (1 : Int32)) → q_At G X_Tk_isName d 0 0 23 [some (.ref 3)] [.int vJ] σ Q := by
      intro vJ eJ
      rw [eJ]
      clear eJ vJ
      exact q_zre o_Tk_isName_23 rfl h4.1 h4.2
    refine q_if_eq o_Tk_isName_15 (fun c6 => ?_) (fun c6 => ?_)
    · refine q_iconst (v := 0) o_Tk_isName_22 (by decide) ?_
      exact hJ _ (Eq.symm (if_pos c6))
    · refine q_iconst (v := 1) o_Tk_isName_18 (by decide) ?_
      refine q_goto o_Tk_isName_19 ?_
      exact hJ _ (Eq.symm (if_neg c6))

set_option maxRecDepth 20000 in
theorem v_Tk_isWord_0 {G : q_G} {d : Nat} {σ : q_S} {Q : Option Value → q_S → Prop} {p0 : Nat} (hp0 : p0 < 34) (hs : q_Sh σ) (h : ((¬ (q_I σ 3 1) = 1 → Q (some (.int 0)) σ) ∧ ((q_I σ 3 1) = 1 → (∃ k5, q_R σ 3 4 = some (1001 + k5) ∧ k5 < 34 ∧ ((¬ k5 = p0 → Q (some (.int 0)) σ) ∧ (k5 = p0 → Q (some (.int 1)) σ)))))) : q_At G X_Tk_isWord d 0 0 0 [some (.ref 3), some (.ref (1001 + p0))] [] σ Q := by
  refine q_aload_n o_Tk_isWord_0 rfl ?_
  refine q2_getI hs o_Tk_isWord_1 f_Tk_46 rfl ?_
  refine q_iconst (v := 1) o_Tk_isWord_4 (by decide) ?_
  refine q_icmp_ne o_Tk_isWord_5 (fun c1 => ?_) (fun c1 => ?_)
  · have h2 := h.1 c1
    refine q_iconst (v := 0) o_Tk_isWord_20 (by decide) ?_
    exact q_zre o_Tk_isWord_21 rfl rfl h2
  · have h3 := h.2 c1
    refine q_aload_n o_Tk_isWord_8 rfl ?_
    obtain ⟨k5, eh4, bh4, h4⟩ := h3
    refine q2_getR hs o_Tk_isWord_9 f_Tk_15 rfl eh4 ?_
    refine q_aload_n o_Tk_isWord_12 rfl ?_
    refine q_acmp_ne o_Tk_isWord_13 bh4 hp0 (fun c6 => ?_) (fun c6 => ?_)
    · have h7 := h4.1 c6
      refine q_iconst (v := 0) o_Tk_isWord_20 (by decide) ?_
      exact q_zre o_Tk_isWord_21 rfl rfl h7
    · have h8 := h4.2 c6
      refine q_iconst (v := 1) o_Tk_isWord_16 (by decide) ?_
      refine q_goto o_Tk_isWord_17 ?_
      exact q_zre o_Tk_isWord_21 rfl rfl h8

set_option maxRecDepth 20000 in
theorem v_Tk_isSign_0 {G : q_G} {d : Nat} {σ : q_S} {Q : Option Value → q_S → Prop} {p0 : Int32}  (hs : q_Sh σ) (h : (narrow .boolean (.int (if (q_I σ 3 1) = 3 then (if (q_I σ 3 7) = p0 then (1 : Int32) else (0 : Int32)) else (0 : Int32))) = .int (if (q_I σ 3 1) = 3 then (if (q_I σ 3 7) = p0 then (1 : Int32) else (0 : Int32)) else (0 : Int32)) ∧ Q (some (.int (if (q_I σ 3 1) = 3 then (if (q_I σ 3 7) = p0 then (1 : Int32) else (0 : Int32)) else (0 : Int32)))) σ)) : q_At G X_Tk_isSign d 0 0 0 [some (.ref 3), some (.int p0)] [] σ Q := by
  refine q_aload_n o_Tk_isSign_0 rfl ?_
  refine q2_getI hs o_Tk_isSign_1 f_Tk_46 rfl ?_
  refine q_iconst (v := 3) o_Tk_isSign_4 (by decide) ?_
  have hJ : ∀ vJ : Int32, vJ = (if (q_I σ 3 1) = 3 then (if (q_I σ 3 7) = p0 then (1 : Int32) else (0 : Int32)) else (0 : Int32)) → q_At G X_Tk_isSign d 0 0 21 [some (.ref 3), some (.int p0)] [.int vJ] σ Q := by
    intro vJ eJ
    rw [eJ]
    clear eJ vJ
    exact q_zre o_Tk_isSign_21 rfl h.1 h.2
  refine q_icmp_ne o_Tk_isSign_5 (fun c1 => ?_) (fun c1 => ?_)
  · refine q_iconst (v := 0) o_Tk_isSign_20 (by decide) ?_
    exact hJ _ (Eq.symm (if_neg c1))
  · refine q_aload_n o_Tk_isSign_8 rfl ?_
    refine q2_getI hs o_Tk_isSign_9 f_Tk_73 rfl ?_
    refine q_iload_n o_Tk_isSign_12 rfl ?_
    refine q_icmp_ne o_Tk_isSign_13 (fun c2 => ?_) (fun c2 => ?_)
    · refine q_iconst (v := 0) o_Tk_isSign_20 (by decide) ?_
      exact hJ _ (Eq.symm ((if_pos c1).trans (if_neg c2)))
    · refine q_iconst (v := 1) o_Tk_isSign_16 (by decide) ?_
      refine q_goto o_Tk_isSign_17 ?_
      exact hJ _ (Eq.symm ((if_pos c1).trans (if_pos c2)))

set_option maxRecDepth 20000 in
theorem v_Tk_takeWord_0 {G : q_G} {d : Nat} {σ : q_S} {Q : Option Value → q_S → Prop} {p0 : Nat} (hp0 : p0 < 34) (hs : q_Sh σ) (h : q_Call G d 0 0 X_Tk_isWord [.ref 3, .ref (1001 + p0)] σ (q_ri (fun x4 σ2 => ((¬ x4 = 0 → q_Call G d 0 0 X_Tk_advance [.ref 3] σ2 (q_rv (fun σ8 => Q (some (.int 1)) σ8))) ∧ (x4 = 0 → q_Call G d 0 0 X_Tk_refuse [.ref 3, .int 1] σ2 (q_ri (fun x14 σ12 => (narrow .boolean (.int x14) = .int x14 ∧ Q (some (.int x14)) σ12)))))))) : q_At G X_Tk_takeWord (d + 1) 0 0 0 [some (.ref 3), some (.ref (1001 + p0))] [] σ Q := by
  refine q_aload_n o_Tk_takeWord_0 rfl ?_
  refine q_aload_n o_Tk_takeWord_1 rfl ?_
  refine q2_callVi _ (a := 3) (As := [.ref (1001 + p0)]) (st := []) hs o_Tk_takeWord_2 k_Tk_89 rfl rfl (Nat.le_of_ble_eq_true rfl) h (fun x4 σ2 hs3 h1 => ?_)
  refine q_if_ne o_Tk_takeWord_5 (fun c5 => ?_) (fun c5 => ?_)
  · have h6 := h1.1 c5
    refine q_aload_n o_Tk_takeWord_14 rfl ?_
    refine q2_callVv _ (a := 3) (As := []) (st := []) hs3 o_Tk_takeWord_15 k_Tk_31 rfl rfl (Nat.le_of_ble_eq_true rfl) h6 (fun σ8 hs9 h7 => ?_)
    refine q_iconst (v := 1) o_Tk_takeWord_18 (by decide) ?_
    exact q_zre o_Tk_takeWord_19 rfl rfl h7
  · have h10 := h1.2 c5
    refine q_aload_n o_Tk_takeWord_8 rfl ?_
    refine q_iconst (v := 1) o_Tk_takeWord_9 (by decide) ?_
    refine q2_callVi _ (a := 3) (As := [.int 1]) (st := []) hs3 o_Tk_takeWord_10 k_Tk_93 rfl rfl (Nat.le_of_ble_eq_true rfl) h10 (fun x14 σ12 hs13 h11 => ?_)
    exact q_zre o_Tk_takeWord_13 rfl h11.1 h11.2

set_option maxRecDepth 20000 in
theorem v_Tk_takeSign_0 {G : q_G} {d : Nat} {σ : q_S} {Q : Option Value → q_S → Prop} {p0 : Int32}  (hs : q_Sh σ) (h : q_Call G d 0 0 X_Tk_isSign [.ref 3, .int p0] σ (q_ri (fun x4 σ2 => ((¬ x4 = 0 → q_Call G d 0 0 X_Tk_advance [.ref 3] σ2 (q_rv (fun σ8 => Q (some (.int 1)) σ8))) ∧ (x4 = 0 → q_Call G d 0 0 X_Tk_refuse [.ref 3, .int 1] σ2 (q_ri (fun x14 σ12 => (narrow .boolean (.int x14) = .int x14 ∧ Q (some (.int x14)) σ12)))))))) : q_At G X_Tk_takeSign (d + 1) 0 0 0 [some (.ref 3), some (.int p0)] [] σ Q := by
  refine q_aload_n o_Tk_takeSign_0 rfl ?_
  refine q_iload_n o_Tk_takeSign_1 rfl ?_
  refine q2_callVi _ (a := 3) (As := [.int p0]) (st := []) hs o_Tk_takeSign_2 k_Tk_97 rfl rfl (Nat.le_of_ble_eq_true rfl) h (fun x4 σ2 hs3 h1 => ?_)
  refine q_if_ne o_Tk_takeSign_5 (fun c5 => ?_) (fun c5 => ?_)
  · have h6 := h1.1 c5
    refine q_aload_n o_Tk_takeSign_14 rfl ?_
    refine q2_callVv _ (a := 3) (As := []) (st := []) hs3 o_Tk_takeSign_15 k_Tk_31 rfl rfl (Nat.le_of_ble_eq_true rfl) h6 (fun σ8 hs9 h7 => ?_)
    refine q_iconst (v := 1) o_Tk_takeSign_18 (by decide) ?_
    exact q_zre o_Tk_takeSign_19 rfl rfl h7
  · have h10 := h1.2 c5
    refine q_aload_n o_Tk_takeSign_8 rfl ?_
    refine q_iconst (v := 1) o_Tk_takeSign_9 (by decide) ?_
    refine q2_callVi _ (a := 3) (As := [.int 1]) (st := []) hs3 o_Tk_takeSign_10 k_Tk_93 rfl rfl (Nat.le_of_ble_eq_true rfl) h10 (fun x14 σ12 hs13 h11 => ?_)
    exact q_zre o_Tk_takeSign_13 rfl h11.1 h11.2

set_option maxRecDepth 20000 in
theorem v_Tk_takeNumber_0 {G : q_G} {d : Nat} {σ : q_S} {Q : Option Value → q_S → Prop} {p0 : Int32} {p1 : Int32}  (hs : q_Sh σ) (h : (((q_I σ 3 1) = 2 → (((q_I σ 3 6) < p0 → q_Call G d 0 0 X_Tk_refuse [.ref 3, .int 4] σ (q_ri (fun x8 σ6 => (narrow .boolean (.int x8) = .int x8 ∧ Q (some (.int x8)) σ6)))) ∧ (¬ (q_I σ 3 6) < p0 → (((q_I σ 3 6) ≤ p1 → q_Call G d 0 0 X_Tk_advance [.ref 3] (q_setI σ 3 8 (q_I σ 3 6)) (q_rv (fun σ13 => Q (some (.int 1)) σ13))) ∧ (¬ (q_I σ 3 6) ≤ p1 → q_Call G d 0 0 X_Tk_refuse [.ref 3, .int 4] σ (q_ri (fun x19 σ17 => (narrow .boolean (.int x19) = .int x19 ∧ Q (some (.int x19)) σ17)))))))) ∧ (¬ (q_I σ 3 1) = 2 → q_Call G d 0 0 X_Tk_refuse [.ref 3, .int 1] σ (q_ri (fun x24 σ22 => (narrow .boolean (.int x24) = .int x24 ∧ Q (some (.int x24)) σ22)))))) : q_At G X_Tk_takeNumber (d + 1) 0 0 0 [some (.ref 3), some (.int p0), some (.int p1)] [] σ Q := by
  refine q_aload_n o_Tk_takeNumber_0 rfl ?_
  refine q2_getI hs o_Tk_takeNumber_1 f_Tk_46 rfl ?_
  refine q_iconst (v := 2) o_Tk_takeNumber_4 (by decide) ?_
  refine q_icmp_eq o_Tk_takeNumber_5 (fun c1 => ?_) (fun c1 => ?_)
  · have h2 := h.1 c1
    refine q_aload_n o_Tk_takeNumber_14 rfl ?_
    refine q2_getI hs o_Tk_takeNumber_15 f_Tk_70 rfl ?_
    refine q_iload_n o_Tk_takeNumber_18 rfl ?_
    refine q_icmp_lt o_Tk_takeNumber_19 (fun c3 => ?_) (fun c3 => ?_)
    · have h4 := h2.1 c3
      refine q_aload_n o_Tk_takeNumber_30 rfl ?_
      refine q_iconst (v := 4) o_Tk_takeNumber_31 (by decide) ?_
      refine q2_callVi _ (a := 3) (As := [.int 4]) (st := []) hs o_Tk_takeNumber_32 k_Tk_93 rfl rfl (Nat.le_of_ble_eq_true rfl) h4 (fun x8 σ6 hs7 h5 => ?_)
      exact q_zre o_Tk_takeNumber_35 rfl h5.1 h5.2
    · have h9 := h2.2 c3
      refine q_aload_n o_Tk_takeNumber_22 rfl ?_
      refine q2_getI hs o_Tk_takeNumber_23 f_Tk_70 rfl ?_
      refine q_iload_n o_Tk_takeNumber_26 rfl ?_
      refine q_icmp_le o_Tk_takeNumber_27 (fun c10 => ?_) (fun c10 => ?_)
      · have h11 := h9.1 c10
        refine q_aload_n o_Tk_takeNumber_36 rfl ?_
        refine q_aload_n o_Tk_takeNumber_37 rfl ?_
        refine q2_getI hs o_Tk_takeNumber_38 f_Tk_70 rfl ?_
        refine q2_putI hs o_Tk_takeNumber_41 fp_Tk_101 rfl rfl rfl ?_
        refine q_aload_n o_Tk_takeNumber_44 rfl ?_
        refine q2_callVv _ (a := 3) (As := []) (st := []) hs o_Tk_takeNumber_45 k_Tk_31 rfl rfl (Nat.le_of_ble_eq_true rfl) h11 (fun σ13 hs14 h12 => ?_)
        refine q_iconst (v := 1) o_Tk_takeNumber_48 (by decide) ?_
        exact q_zre o_Tk_takeNumber_49 rfl rfl h12
      · have h15 := h9.2 c10
        refine q_aload_n o_Tk_takeNumber_30 rfl ?_
        refine q_iconst (v := 4) o_Tk_takeNumber_31 (by decide) ?_
        refine q2_callVi _ (a := 3) (As := [.int 4]) (st := []) hs o_Tk_takeNumber_32 k_Tk_93 rfl rfl (Nat.le_of_ble_eq_true rfl) h15 (fun x19 σ17 hs18 h16 => ?_)
        exact q_zre o_Tk_takeNumber_35 rfl h16.1 h16.2
  · have h20 := h.2 c1
    refine q_aload_n o_Tk_takeNumber_8 rfl ?_
    refine q_iconst (v := 1) o_Tk_takeNumber_9 (by decide) ?_
    refine q2_callVi _ (a := 3) (As := [.int 1]) (st := []) hs o_Tk_takeNumber_10 k_Tk_93 rfl rfl (Nat.le_of_ble_eq_true rfl) h20 (fun x24 σ22 hs23 h21 => ?_)
    exact q_zre o_Tk_takeNumber_13 rfl h21.1 h21.2

set_option maxRecDepth 20000 in
theorem v_Tk_kindHere_0 {G : q_G} {d : Nat} {σ : q_S} {Q : Option Value → q_S → Prop}   (hs : q_Sh σ) (h : (((q_I σ 3 1) = 1 → (∃ k4, q_R σ 3 4 = some (1001 + k4) ∧ k4 < 34 ∧ (∃ k6, (nI k4) = nI k6 ∧ k6 < 34 ∧ ((((q_smap.getD k6 0).toInt < 1 ∨ 4 < (q_smap.getD k6 0).toInt) → Q (some (.int (-1))) σ) ∧ (((q_smap.getD k6 0).toInt = 1 → Q (some (.int 0)) σ) ∧ ((q_smap.getD k6 0).toInt = 2 → Q (some (.int 1)) σ) ∧ ((q_smap.getD k6 0).toInt = 3 → Q (some (.int 2)) σ) ∧ ((q_smap.getD k6 0).toInt = 4 → Q (some (.int 3)) σ)))))) ∧ (¬ (q_I σ 3 1) = 1 → Q (some (.int (-1))) σ))) : q_At G X_Tk_kindHere (d + 1) 0 0 0 [some (.ref 3)] [] σ Q := by
  refine q_aload_n o_Tk_kindHere_0 rfl ?_
  refine q2_getI hs o_Tk_kindHere_1 f_Tk_46 rfl ?_
  refine q_iconst (v := 1) o_Tk_kindHere_4 (by decide) ?_
  refine q_icmp_eq o_Tk_kindHere_5 (fun c1 => ?_) (fun c1 => ?_)
  · have h2 := h.1 c1
    refine q_gets (w := .ref 1042) o_Tk_kindHere_10 s_Tk_104 (fun U H hh => hh.2.2.2.2.1.1) ?_
    refine q_aload_n o_Tk_kindHere_13 rfl ?_
    obtain ⟨k4, eh3, bh3, h3⟩ := h2
    refine q2_getR hs o_Tk_kindHere_14 f_Tk_15 rfl eh3 ?_
    refine q2_ord hs o_Tk_kindHere_17 k_Tk_110 bh3 (Nat.le_of_ble_eq_true rfl) ?_
    obtain ⟨k6, eh5, bh5, h5⟩ := h3
    refine q_ti (w := .int (q_smap.getD k6 0)) o_Tk_kindHere_20 (fun U H hh => hh.2.2.2.2.1.2) eh5 bh5 (by decide) rfl ?_
    rcases q_sw 1 4 (q_smap.getD k6 0) with c0 | ⟨kk, c1, c2, c3⟩
    · have h7 := h5.1 c0
      refine q_tabOut (tgt := 60) o_Tk_kindHere_21 c0 (by decide) ?_
      refine q_iconst (v := (-1)) o_Tk_kindHere_60 (by decide) ?_
      exact q_ire o_Tk_kindHere_61 rfl h7
    · have h8 := h5.2
      have hx : (q_smap.getD k6 0).toInt = 1 + (kk : Int) := c3
      have hkk : kk = 0 ∨ kk = 1 ∨ kk = 2 ∨ kk = 3 := by omega
      rcases hkk with rfl | rfl | rfl | rfl
      · have h9 := h8.1 (by simpa using hx)
        refine q_tabIn (tgt := 52) (off := 31) o_Tk_kindHere_21 c1 c2 (by rw [show (q_smap.getD k6 0).toInt = 1 by simpa using hx]; rfl) (by decide) ?_
        refine q_iconst (v := 0) o_Tk_kindHere_52 (by decide) ?_
        exact q_ire o_Tk_kindHere_53 rfl h9
      · have h10 := h8.2.1 (by simpa using hx)
        refine q_tabIn (tgt := 54) (off := 33) o_Tk_kindHere_21 c1 c2 (by rw [show (q_smap.getD k6 0).toInt = 2 by simpa using hx]; rfl) (by decide) ?_
        refine q_iconst (v := 1) o_Tk_kindHere_54 (by decide) ?_
        exact q_ire o_Tk_kindHere_55 rfl h10
      · have h11 := h8.2.2.1 (by simpa using hx)
        refine q_tabIn (tgt := 56) (off := 35) o_Tk_kindHere_21 c1 c2 (by rw [show (q_smap.getD k6 0).toInt = 3 by simpa using hx]; rfl) (by decide) ?_
        refine q_iconst (v := 2) o_Tk_kindHere_56 (by decide) ?_
        exact q_ire o_Tk_kindHere_57 rfl h11
      · have h12 := h8.2.2.2 (by simpa using hx)
        refine q_tabIn (tgt := 58) (off := 37) o_Tk_kindHere_21 c1 c2 (by rw [show (q_smap.getD k6 0).toInt = 4 by simpa using hx]; rfl) (by decide) ?_
        refine q_iconst (v := 3) o_Tk_kindHere_58 (by decide) ?_
        exact q_ire o_Tk_kindHere_59 rfl h12
  · have h13 := h.2 c1
    refine q_iconst (v := (-1)) o_Tk_kindHere_8 (by decide) ?_
    exact q_ire o_Tk_kindHere_9 rfl h13
