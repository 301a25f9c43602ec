set_option maxRecDepth 20000 in
theorem v_Tk_start_0 {G : q_G} {d : Nat} {σ : q_S} {Q : Option Value → q_S → Prop}   (hs : q_Sh σ) (h : q_Call G d 0 0 X_Tk_advance [.ref 3] (q_setI (q_setI σ 3 3 0) 3 9 0) (q_rv (fun σ2 => Q none σ2))) : q_At G X_Tk_start (d + 1) 0 0 0 [some (.ref 3)] [] σ Q := by
  refine q_aload_n o_Tk_start_0 rfl ?_
  refine q_iconst (v := 0) o_Tk_start_1 (by decide) ?_
  refine q2_putI hs o_Tk_start_2 fp_Tk_24 rfl rfl rfl ?_
  refine q_aload_n o_Tk_start_5 rfl ?_
  refine q_iconst (v := 0) o_Tk_start_6 (by decide) ?_
  refine q2_putI hs o_Tk_start_7 fp_Tk_28 rfl rfl rfl ?_
  refine q_aload_n o_Tk_start_10 rfl ?_
  refine q2_callVv _ (a := 3) (As := []) (st := []) hs o_Tk_start_11 k_Tk_31 rfl rfl (Nat.le_of_ble_eq_true rfl) h (fun σ2 hs3 h1 => ?_)
  exact q_vre o_Tk_start_14 rfl h1

set_option maxRecDepth 20000 in
theorem v_Tk_advance_0 {G : q_G} {d : Nat} {σ : q_S} {Q : Option Value → q_S → Prop}   (hs : q_Sh σ) (h : (((q_I σ 1 1) ≤ (q_I σ 3 3) → (((q_I (q_setI σ 3 2 (q_I σ 3 3)) 1 1) ≤ (q_I (q_setI σ 3 2 (q_I σ 3 3)) 3 3) → (((q_I (q_setI σ 3 2 (q_I σ 3 3)) 3 3) < (q_I (q_setI σ 3 2 (q_I σ 3 3)) 1 1) → (((32 : Int32) < 97 → (((32 : Int32) < 48 → q_Call G d 0 0 X_Tk_readSign [.ref 3, .int 32] (q_setI σ 3 2 (q_I σ 3 3)) (q_rv (fun σ12 => Q none σ12))) ∧ (¬ (32 : Int32) < 48 → ((57 < (32 : Int32) → q_Call G d 0 0 X_Tk_readSign [.ref 3, .int 32] (q_setI σ 3 2 (q_I σ 3 3)) (q_rv (fun σ18 => Q none σ18))) ∧ (¬ 57 < (32 : Int32) → q_Call G d 0 0 X_Tk_readNumber [.ref 3] (q_setI σ 3 2 (q_I σ 3 3)) (q_rv (fun σ22 => Q none σ22))))))) ∧ (¬ (32 : Int32) < 97 → ((122 < (32 : Int32) → (((32 : Int32) < 48 → q_Call G d 0 0 X_Tk_readSign [.ref 3, .int 32] (q_setI σ 3 2 (q_I σ 3 3)) (q_rv (fun σ30 => Q none σ30))) ∧ (¬ (32 : Int32) < 48 → ((57 < (32 : Int32) → q_Call G d 0 0 X_Tk_readSign [.ref 3, .int 32] (q_setI σ 3 2 (q_I σ 3 3)) (q_rv (fun σ36 => Q none σ36))) ∧ (¬ 57 < (32 : Int32) → q_Call G d 0 0 X_Tk_readNumber [.ref 3] (q_setI σ 3 2 (q_I σ 3 3)) (q_rv (fun σ40 => Q none σ40))))))) ∧ (¬ 122 < (32 : Int32) → q_Call G d 0 0 X_Tk_readWord [.ref 3] (q_setI σ 3 2 (q_I σ 3 3)) (q_rv (fun σ44 => Q none σ44))))))) ∧ (¬ (q_I (q_setI σ 3 2 (q_I σ 3 3)) 3 3) < (q_I (q_setI σ 3 2 (q_I σ 3 3)) 1 1) → Q none (q_setI (q_setI σ 3 2 (q_I σ 3 3)) 3 1 0)))) ∧ (¬ (q_I (q_setI σ 3 2 (q_I σ 3 3)) 1 1) ≤ (q_I (q_setI σ 3 2 (q_I σ 3 3)) 3 3) → (∃ k49, (q_I (q_setI σ 3 2 (q_I σ 3 3)) 3 3) = nI k49 ∧ k49 < 1000 ∧ (((q_I (q_setI σ 3 2 (q_I σ 3 3)) 3 3) < (q_I (q_setI σ 3 2 (q_I σ 3 3)) 1 1) → (((q_I (q_setI σ 3 2 (q_I σ 3 3)) 2 k49) < 97 → (((q_I (q_setI σ 3 2 (q_I σ 3 3)) 2 k49) < 48 → q_Call G d 0 0 X_Tk_readSign [.ref 3, .int (q_I (q_setI σ 3 2 (q_I σ 3 3)) 2 k49)] (q_setI σ 3 2 (q_I σ 3 3)) (q_rv (fun σ57 => Q none σ57))) ∧ (¬ (q_I (q_setI σ 3 2 (q_I σ 3 3)) 2 k49) < 48 → ((57 < (q_I (q_setI σ 3 2 (q_I σ 3 3)) 2 k49) → q_Call G d 0 0 X_Tk_readSign [.ref 3, .int (q_I (q_setI σ 3 2 (q_I σ 3 3)) 2 k49)] (q_setI σ 3 2 (q_I σ 3 3)) (q_rv (fun σ63 => Q none σ63))) ∧ (¬ 57 < (q_I (q_setI σ 3 2 (q_I σ 3 3)) 2 k49) → q_Call G d 0 0 X_Tk_readNumber [.ref 3] (q_setI σ 3 2 (q_I σ 3 3)) (q_rv (fun σ67 => Q none σ67))))))) ∧ (¬ (q_I (q_setI σ 3 2 (q_I σ 3 3)) 2 k49) < 97 → ((122 < (q_I (q_setI σ 3 2 (q_I σ 3 3)) 2 k49) → (((q_I (q_setI σ 3 2 (q_I σ 3 3)) 2 k49) < 48 → q_Call G d 0 0 X_Tk_readSign [.ref 3, .int (q_I (q_setI σ 3 2 (q_I σ 3 3)) 2 k49)] (q_setI σ 3 2 (q_I σ 3 3)) (q_rv (fun σ75 => Q none σ75))) ∧ (¬ (q_I (q_setI σ 3 2 (q_I σ 3 3)) 2 k49) < 48 → ((57 < (q_I (q_setI σ 3 2 (q_I σ 3 3)) 2 k49) → q_Call G d 0 0 X_Tk_readSign [.ref 3, .int (q_I (q_setI σ 3 2 (q_I σ 3 3)) 2 k49)] (q_setI σ 3 2 (q_I σ 3 3)) (q_rv (fun σ81 => Q none σ81))) ∧ (¬ 57 < (q_I (q_setI σ 3 2 (q_I σ 3 3)) 2 k49) → q_Call G d 0 0 X_Tk_readNumber [.ref 3] (q_setI σ 3 2 (q_I σ 3 3)) (q_rv (fun σ85 => Q none σ85))))))) ∧ (¬ 122 < (q_I (q_setI σ 3 2 (q_I σ 3 3)) 2 k49) → q_Call G d 0 0 X_Tk_readWord [.ref 3] (q_setI σ 3 2 (q_I σ 3 3)) (q_rv (fun σ89 => Q none σ89))))))) ∧ (¬ (q_I (q_setI σ 3 2 (q_I σ 3 3)) 3 3) < (q_I (q_setI σ 3 2 (q_I σ 3 3)) 1 1) → Q none (q_setI (q_setI σ 3 2 (q_I σ 3 3)) 3 1 0))))))) ∧ (¬ (q_I σ 1 1) ≤ (q_I σ 3 3) → (∃ k94, (q_I σ 3 3) = nI k94 ∧ k94 < 1000 ∧ (((q_I σ 2 k94) = 32 → q_At G X_Tk_advance (d + 1) 0 0 0 [some (.ref 3), none] [] (q_setI σ 3 3 ((q_I σ 3 3) + 1)) Q) ∧ (¬ (q_I σ 2 k94) = 32 → (∃ k99, (q_I σ 3 3) = nI k99 ∧ k99 < 1000 ∧ ((¬ (q_I σ 2 k99) = 10 → (((q_I (q_setI σ 3 2 (q_I σ 3 3)) 1 1) ≤ (q_I (q_setI σ 3 2 (q_I σ 3 3)) 3 3) → (((q_I (q_setI σ 3 2 (q_I σ 3 3)) 3 3) < (q_I (q_setI σ 3 2 (q_I σ 3 3)) 1 1) → (((32 : Int32) < 97 → (((32 : Int32) < 48 → q_Call G d 0 0 X_Tk_readSign [.ref 3, .int 32] (q_setI σ 3 2 (q_I σ 3 3)) (q_rv (fun σ111 => Q none σ111))) ∧ (¬ (32 : Int32) < 48 → ((57 < (32 : Int32) → q_Call G d 0 0 X_Tk_readSign [.ref 3, .int 32] (q_setI σ 3 2 (q_I σ 3 3)) (q_rv (fun σ117 => Q none σ117))) ∧ (¬ 57 < (32 : Int32) → q_Call G d 0 0 X_Tk_readNumber [.ref 3] (q_setI σ 3 2 (q_I σ 3 3)) (q_rv (fun σ121 => Q none σ121))))))) ∧ (¬ (32 : Int32) < 97 → ((122 < (32 : Int32) → (((32 : Int32) < 48 → q_Call G d 0 0 X_Tk_readSign [.ref 3, .int 32] (q_setI σ 3 2 (q_I σ 3 3)) (q_rv (fun σ129 => Q none σ129))) ∧ (¬ (32 : Int32) < 48 → ((57 < (32 : Int32) → q_Call G d 0 0 X_Tk_readSign [.ref 3, .int 32] (q_setI σ 3 2 (q_I σ 3 3)) (q_rv (fun σ135 => Q none σ135))) ∧ (¬ 57 < (32 : Int32) → q_Call G d 0 0 X_Tk_readNumber [.ref 3] (q_setI σ 3 2 (q_I σ 3 3)) (q_rv (fun σ139 => Q none σ139))))))) ∧ (¬ 122 < (32 : Int32) → q_Call G d 0 0 X_Tk_readWord [.ref 3] (q_setI σ 3 2 (q_I σ 3 3)) (q_rv (fun σ143 => Q none σ143))))))) ∧ (¬ (q_I (q_setI σ 3 2 (q_I σ 3 3)) 3 3) < (q_I (q_setI σ 3 2 (q_I σ 3 3)) 1 1) → Q none (q_setI (q_setI σ 3 2 (q_I σ 3 3)) 3 1 0)))) ∧ (¬ (q_I (q_setI σ 3 2 (q_I σ 3 3)) 1 1) ≤ (q_I (q_setI σ 3 2 (q_I σ 3 3)) 3 3) → (∃ k148, (q_I (q_setI σ 3 2 (q_I σ 3 3)) 3 3) = nI k148 ∧ k148 < 1000 ∧ (((q_I (q_setI σ 3 2 (q_I σ 3 3)) 3 3) < (q_I (q_setI σ 3 2 (q_I σ 3 3)) 1 1) → (((q_I (q_setI σ 3 2 (q_I σ 3 3)) 2 k148) < 97 → (((q_I (q_setI σ 3 2 (q_I σ 3 3)) 2 k148) < 48 → q_Call G d 0 0 X_Tk_readSign [.ref 3, .int (q_I (q_setI σ 3 2 (q_I σ 3 3)) 2 k148)] (q_setI σ 3 2 (q_I σ 3 3)) (q_rv (fun σ156 => Q none σ156))) ∧ (¬ (q_I (q_setI σ 3 2 (q_I σ 3 3)) 2 k148) < 48 → ((57 < (q_I (q_setI σ 3 2 (q_I σ 3 3)) 2 k148) → q_Call G d 0 0 X_Tk_readSign [.ref 3, .int (q_I (q_setI σ 3 2 (q_I σ 3 3)) 2 k148)] (q_setI σ 3 2 (q_I σ 3 3)) (q_rv (fun σ162 => Q none σ162))) ∧ (¬ 57 < (q_I (q_setI σ 3 2 (q_I σ 3 3)) 2 k148) → q_Call G d 0 0 X_Tk_readNumber [.ref 3] (q_setI σ 3 2 (q_I σ 3 3)) (q_rv (fun σ166 => Q none σ166))))))) ∧ (¬ (q_I (q_setI σ 3 2 (q_I σ 3 3)) 2 k148) < 97 → ((122 < (q_I (q_setI σ 3 2 (q_I σ 3 3)) 2 k148) → (((q_I (q_setI σ 3 2 (q_I σ 3 3)) 2 k148) < 48 → q_Call G d 0 0 X_Tk_readSign [.ref 3, .int (q_I (q_setI σ 3 2 (q_I σ 3 3)) 2 k148)] (q_setI σ 3 2 (q_I σ 3 3)) (q_rv (fun σ174 => Q none σ174))) ∧ (¬ (q_I (q_setI σ 3 2 (q_I σ 3 3)) 2 k148) < 48 → ((57 < (q_I (q_setI σ 3 2 (q_I σ 3 3)) 2 k148) → q_Call G d 0 0 X_Tk_readSign [.ref 3, .int (q_I (q_setI σ 3 2 (q_I σ 3 3)) 2 k148)] (q_setI σ 3 2 (q_I σ 3 3)) (q_rv (fun σ180 => Q none σ180))) ∧ (¬ 57 < (q_I (q_setI σ 3 2 (q_I σ 3 3)) 2 k148) → q_Call G d 0 0 X_Tk_readNumber [.ref 3] (q_setI σ 3 2 (q_I σ 3 3)) (q_rv (fun σ184 => Q none σ184))))))) ∧ (¬ 122 < (q_I (q_setI σ 3 2 (q_I σ 3 3)) 2 k148) → q_Call G d 0 0 X_Tk_readWord [.ref 3] (q_setI σ 3 2 (q_I σ 3 3)) (q_rv (fun σ188 => Q none σ188))))))) ∧ (¬ (q_I (q_setI σ 3 2 (q_I σ 3 3)) 3 3) < (q_I (q_setI σ 3 2 (q_I σ 3 3)) 1 1) → Q none (q_setI (q_setI σ 3 2 (q_I σ 3 3)) 3 1 0))))))) ∧ ((q_I σ 2 k99) = 10 → q_At G X_Tk_advance (d + 1) 0 0 0 [some (.ref 3), none] [] (q_setI σ 3 3 ((q_I σ 3 3) + 1)) Q))))))))) : q_At G X_Tk_advance (d + 1) 0 0 0 [some (.ref 3), none] [] σ Q := by
  refine q_aload_n o_Tk_advance_0 rfl ?_
  refine q2_getI hs o_Tk_advance_1 f_Tk_24 rfl ?_
  refine q_aload_n o_Tk_advance_4 rfl ?_
  refine q2_getR hs o_Tk_advance_5 f_Tk_20 rfl (fz_3_0 hs) ?_
  refine q2_getI hs o_Tk_advance_8 f_Tk_34 rfl ?_
  refine q_icmp_ge o_Tk_advance_11 (fun c1 => ?_) (fun c1 => ?_)
  · have h2 := h.1 c1
    refine q_aload_n o_Tk_advance_61 rfl ?_
    refine q_aload_n o_Tk_advance_62 rfl ?_
    refine q2_getI hs o_Tk_advance_63 f_Tk_24 rfl ?_
    refine q2_putI hs o_Tk_advance_66 fp_Tk_43 rfl rfl rfl ?_
    refine q_aload_n o_Tk_advance_69 rfl ?_
    refine q2_getI hs o_Tk_advance_70 f_Tk_24 rfl ?_
    refine q_aload_n o_Tk_advance_73 rfl ?_
    refine q2_getR hs o_Tk_advance_74 f_Tk_20 rfl (fz_3_0 hs) ?_
    refine q2_getI hs o_Tk_advance_77 f_Tk_34 rfl ?_
    refine q_icmp_ge o_Tk_advance_80 (fun c3 => ?_) (fun c3 => ?_)
    · have h4 := h2.1 c3
      refine q_bipush (v := 32) o_Tk_advance_98 (by decide) ?_
      refine q2_istn (ls' := [some (.ref 3), some (.int 32)]) o_Tk_advance_100 (Nat.le_of_ble_eq_true rfl) rfl ?_
      refine q_aload_n o_Tk_advance_101 rfl ?_
      refine q2_getI hs o_Tk_advance_102 f_Tk_24 rfl ?_
      refine q_aload_n o_Tk_advance_105 rfl ?_
      refine q2_getR hs o_Tk_advance_106 f_Tk_20 rfl (fz_3_0 hs) ?_
      refine q2_getI hs o_Tk_advance_109 f_Tk_34 rfl ?_
      refine q_icmp_lt o_Tk_advance_112 (fun c5 => ?_) (fun c5 => ?_)
      · have h6 := h4.1 c5
        refine q_iload_n o_Tk_advance_123 rfl ?_
        refine q_bipush (v := 97) o_Tk_advance_124 (by decide) ?_
        refine q_icmp_lt o_Tk_advance_126 (fun c7 => ?_) (fun c7 => ?_)
        · have h8 := h6.1 c7
          refine q_iload_n o_Tk_advance_142 rfl ?_
          refine q_bipush (v := 48) o_Tk_advance_143 (by decide) ?_
          refine q_icmp_lt o_Tk_advance_145 (fun c9 => ?_) (fun c9 => ?_)
          · have h10 := h8.1 c9
            refine q_aload_n o_Tk_advance_161 rfl ?_
            refine q_iload_n o_Tk_advance_162 rfl ?_
            refine q2_callVv _ (a := 3) (As := [.int 32]) (st := []) hs o_Tk_advance_163 k_Tk_55 rfl rfl (Nat.le_of_ble_eq_true rfl) h10 (fun σ12 hs13 h11 => ?_)
            exact q_vre o_Tk_advance_166 rfl h11
          · have h14 := h8.2 c9
            refine q_iload_n o_Tk_advance_148 rfl ?_
            refine q_bipush (v := 57) o_Tk_advance_149 (by decide) ?_
            refine q_icmp_gt o_Tk_advance_151 (fun c15 => ?_) (fun c15 => ?_)
            · have h16 := h14.1 c15
              refine q_aload_n o_Tk_advance_161 rfl ?_
              refine q_iload_n o_Tk_advance_162 rfl ?_
              refine q2_callVv _ (a := 3) (As := [.int 32]) (st := []) hs o_Tk_advance_163 k_Tk_55 rfl rfl (Nat.le_of_ble_eq_true rfl) h16 (fun σ18 hs19 h17 => ?_)
              exact q_vre o_Tk_advance_166 rfl h17
            · have h20 := h14.2 c15
              refine q_aload_n o_Tk_advance_154 rfl ?_
              refine q2_callVv _ (a := 3) (As := []) (st := []) hs o_Tk_advance_155 k_Tk_52 rfl rfl (Nat.le_of_ble_eq_true rfl) h20 (fun σ22 hs23 h21 => ?_)
              refine q_goto o_Tk_advance_158 ?_
              exact q_vre o_Tk_advance_166 rfl h21
        · have h24 := h6.2 c7
          refine q_iload_n o_Tk_advance_129 rfl ?_
          refine q_bipush (v := 122) o_Tk_advance_130 (by decide) ?_
          refine q_icmp_gt o_Tk_advance_132 (fun c25 => ?_) (fun c25 => ?_)
          · have h26 := h24.1 c25
            refine q_iload_n o_Tk_advance_142 rfl ?_
            refine q_bipush (v := 48) o_Tk_advance_143 (by decide) ?_
            refine q_icmp_lt o_Tk_advance_145 (fun c27 => ?_) (fun c27 => ?_)
            · have h28 := h26.1 c27
              refine q_aload_n o_Tk_advance_161 rfl ?_
              refine q_iload_n o_Tk_advance_162 rfl ?_
              refine q2_callVv _ (a := 3) (As := [.int 32]) (st := []) hs o_Tk_advance_163 k_Tk_55 rfl rfl (Nat.le_of_ble_eq_true rfl) h28 (fun σ30 hs31 h29 => ?_)
              exact q_vre o_Tk_advance_166 rfl h29
            · have h32 := h26.2 c27
              refine q_iload_n o_Tk_advance_148 rfl ?_
              refine q_bipush (v := 57) o_Tk_advance_149 (by decide) ?_
              refine q_icmp_gt o_Tk_advance_151 (fun c33 => ?_) (fun c33 => ?_)
              · have h34 := h32.1 c33
                refine q_aload_n o_Tk_advance_161 rfl ?_
                refine q_iload_n o_Tk_advance_162 rfl ?_
                refine q2_callVv _ (a := 3) (As := [.int 32]) (st := []) hs o_Tk_advance_163 k_Tk_55 rfl rfl (Nat.le_of_ble_eq_true rfl) h34 (fun σ36 hs37 h35 => ?_)
                exact q_vre o_Tk_advance_166 rfl h35
              · have h38 := h32.2 c33
                refine q_aload_n o_Tk_advance_154 rfl ?_
                refine q2_callVv _ (a := 3) (As := []) (st := []) hs o_Tk_advance_155 k_Tk_52 rfl rfl (Nat.le_of_ble_eq_true rfl) h38 (fun σ40 hs41 h39 => ?_)
                refine q_goto o_Tk_advance_158 ?_
                exact q_vre o_Tk_advance_166 rfl h39
          · have h42 := h24.2 c25
            refine q_aload_n o_Tk_advance_135 rfl ?_
            refine q2_callVv _ (a := 3) (As := []) (st := []) hs o_Tk_advance_136 k_Tk_49 rfl rfl (Nat.le_of_ble_eq_true rfl) h42 (fun σ44 hs45 h43 => ?_)
            refine q_goto o_Tk_advance_139 ?_
            exact q_vre o_Tk_advance_166 rfl h43
      · have h46 := h4.2 c5
        refine q_aload_n o_Tk_advance_115 rfl ?_
        refine q_iconst (v := 0) o_Tk_advance_116 (by decide) ?_
        refine q2_putI hs o_Tk_advance_117 fp_Tk_46 rfl rfl rfl ?_
        refine q_goto o_Tk_advance_120 ?_
        exact q_vre o_Tk_advance_166 rfl h46
    · have h47 := h2.2 c3
      refine q_aload_n o_Tk_advance_83 rfl ?_
      refine q2_getR hs o_Tk_advance_84 f_Tk_20 rfl (fz_3_0 hs) ?_
      refine q2_getR hs o_Tk_advance_87 f_Tk_39 rfl (fz_1_0 hs) ?_
      refine q_aload_n o_Tk_advance_90 rfl ?_
      refine q2_getI hs o_Tk_advance_91 f_Tk_24 rfl ?_
      obtain ⟨k49, eh48, bh48, h48⟩ := h47
      refine q2_cald hs o_Tk_advance_94 rfl eh48 bh48 (by decide) ?_
      refine q_goto o_Tk_advance_95 ?_
      refine q2_istn (ls' := [some (.ref 3), some (.int (q_I (q_setI σ 3 2 (q_I σ 3 3)) 2 k49))]) o_Tk_advance_100 (Nat.le_of_ble_eq_true rfl) rfl ?_
      refine q_aload_n o_Tk_advance_101 rfl ?_
      refine q2_getI hs o_Tk_advance_102 f_Tk_24 rfl ?_
      refine q_aload_n o_Tk_advance_105 rfl ?_
      refine q2_getR hs o_Tk_advance_106 f_Tk_20 rfl (fz_3_0 hs) ?_
      refine q2_getI hs o_Tk_advance_109 f_Tk_34 rfl ?_
      refine q_icmp_lt o_Tk_advance_112 (fun c50 => ?_) (fun c50 => ?_)
      · have h51 := h48.1 c50
        refine q_iload_n o_Tk_advance_123 rfl ?_
        refine q_bipush (v := 97) o_Tk_advance_124 (by decide) ?_
        refine q_icmp_lt o_Tk_advance_126 (fun c52 => ?_) (fun c52 => ?_)
        · have h53 := h51.1 c52
          refine q_iload_n o_Tk_advance_142 rfl ?_
          refine q_bipush (v := 48) o_Tk_advance_143 (by decide) ?_
          refine q_icmp_lt o_Tk_advance_145 (fun c54 => ?_) (fun c54 => ?_)
          · have h55 := h53.1 c54
            refine q_aload_n o_Tk_advance_161 rfl ?_
            refine q_iload_n o_Tk_advance_162 rfl ?_
            refine q2_callVv _ (a := 3) (As := [.int (q_I (q_setI σ 3 2 (q_I σ 3 3)) 2 k49)]) (st := []) hs o_Tk_advance_163 k_Tk_55 rfl rfl (Nat.le_of_ble_eq_true rfl) h55 (fun σ57 hs58 h56 => ?_)
            exact q_vre o_Tk_advance_166 rfl h56
          · have h59 := h53.2 c54
            refine q_iload_n o_Tk_advance_148 rfl ?_
            refine q_bipush (v := 57) o_Tk_advance_149 (by decide) ?_
            refine q_icmp_gt o_Tk_advance_151 (fun c60 => ?_) (fun c60 => ?_)
            · have h61 := h59.1 c60
              refine q_aload_n o_Tk_advance_161 rfl ?_
              refine q_iload_n o_Tk_advance_162 rfl ?_
              refine q2_callVv _ (a := 3) (As := [.int (q_I (q_setI σ 3 2 (q_I σ 3 3)) 2 k49)]) (st := []) hs o_Tk_advance_163 k_Tk_55 rfl rfl (Nat.le_of_ble_eq_true rfl) h61 (fun σ63 hs64 h62 => ?_)
              exact q_vre o_Tk_advance_166 rfl h62
            · have h65 := h59.2 c60
              refine q_aload_n o_Tk_advance_154 rfl ?_
              refine q2_callVv _ (a := 3) (As := []) (st := []) hs o_Tk_advance_155 k_Tk_52 rfl rfl (Nat.le_of_ble_eq_true rfl) h65 (fun σ67 hs68 h66 => ?_)
              refine q_goto o_Tk_advance_158 ?_
              exact q_vre o_Tk_advance_166 rfl h66
        · have h69 := h51.2 c52
          refine q_iload_n o_Tk_advance_129 rfl ?_
          refine q_bipush (v := 122) o_Tk_advance_130 (by decide) ?_
          refine q_icmp_gt o_Tk_advance_132 (fun c70 => ?_) (fun c70 => ?_)
          · have h71 := h69.1 c70
            refine q_iload_n o_Tk_advance_142 rfl ?_
            refine q_bipush (v := 48) o_Tk_advance_143 (by decide) ?_
            refine q_icmp_lt o_Tk_advance_145 (fun c72 => ?_) (fun c72 => ?_)
            · have h73 := h71.1 c72
              refine q_aload_n o_Tk_advance_161 rfl ?_
              refine q_iload_n o_Tk_advance_162 rfl ?_
              refine q2_callVv _ (a := 3) (As := [.int (q_I (q_setI σ 3 2 (q_I σ 3 3)) 2 k49)]) (st := []) hs o_Tk_advance_163 k_Tk_55 rfl rfl (Nat.le_of_ble_eq_true rfl) h73 (fun σ75 hs76 h74 => ?_)
              exact q_vre o_Tk_advance_166 rfl h74
            · have h77 := h71.2 c72
              refine q_iload_n o_Tk_advance_148 rfl ?_
              refine q_bipush (v := 57) o_Tk_advance_149 (by decide) ?_
              refine q_icmp_gt o_Tk_advance_151 (fun c78 => ?_) (fun c78 => ?_)
              · have h79 := h77.1 c78
                refine q_aload_n o_Tk_advance_161 rfl ?_
                refine q_iload_n o_Tk_advance_162 rfl ?_
                refine q2_callVv _ (a := 3) (As := [.int (q_I (q_setI σ 3 2 (q_I σ 3 3)) 2 k49)]) (st := []) hs o_Tk_advance_163 k_Tk_55 rfl rfl (Nat.le_of_ble_eq_true rfl) h79 (fun σ81 hs82 h80 => ?_)
                exact q_vre o_Tk_advance_166 rfl h80
              · have h83 := h77.2 c78
                refine q_aload_n o_Tk_advance_154 rfl ?_
                refine q2_callVv _ (a := 3) (As := []) (st := []) hs o_Tk_advance_155 k_Tk_52 rfl rfl (Nat.le_of_ble_eq_true rfl) h83 (fun σ85 hs86 h84 => ?_)
                refine q_goto o_Tk_advance_158 ?_
                exact q_vre o_Tk_advance_166 rfl h84
          · have h87 := h69.2 c70
            refine q_aload_n o_Tk_advance_135 rfl ?_
            refine q2_callVv _ (a := 3) (As := []) (st := []) hs o_Tk_advance_136 k_Tk_49 rfl rfl (Nat.le_of_ble_eq_true rfl) h87 (fun σ89 hs90 h88 => ?_)
            refine q_goto o_Tk_advance_139 ?_
            exact q_vre o_Tk_advance_166 rfl h88
      · have h91 := h48.2 c50
        refine q_aload_n o_Tk_advance_115 rfl ?_
        refine q_iconst (v := 0) o_Tk_advance_116 (by decide) ?_
        refine q2_putI hs o_Tk_advance_117 fp_Tk_46 rfl rfl rfl ?_
        refine q_goto o_Tk_advance_120 ?_
        exact q_vre o_Tk_advance_166 rfl h91
  · have h92 := h.2 c1
    refine q_aload_n o_Tk_advance_14 rfl ?_
    refine q2_getR hs o_Tk_advance_15 f_Tk_20 rfl (fz_3_0 hs) ?_
    refine q2_getR hs o_Tk_advance_18 f_Tk_39 rfl (fz_1_0 hs) ?_
    refine q_aload_n o_Tk_advance_21 rfl ?_
    refine q2_getI hs o_Tk_advance_22 f_Tk_24 rfl ?_
    obtain ⟨k94, eh93, bh93, h93⟩ := h92
    refine q2_cald hs o_Tk_advance_25 rfl eh93 bh93 (by decide) ?_
    refine q_bipush (v := 32) o_Tk_advance_26 (by decide) ?_
    refine q_icmp_eq o_Tk_advance_28 (fun c95 => ?_) (fun c95 => ?_)
    · have h96 := h93.1 c95
      refine q_aload_n o_Tk_advance_48 rfl ?_
      refine q_dup o_Tk_advance_49 rfl ?_
      refine q2_getI hs o_Tk_advance_50 f_Tk_24 rfl ?_
      refine q_iconst (v := 1) o_Tk_advance_53 (by decide) ?_
      refine q_iadd o_Tk_advance_54 ?_
      refine q2_putI hs o_Tk_advance_55 fp_Tk_24 rfl rfl rfl ?_
      refine q_goto o_Tk_advance_58 ?_
      exact h96
    · have h97 := h93.2 c95
      refine q_aload_n o_Tk_advance_31 rfl ?_
      refine q2_getR hs o_Tk_advance_32 f_Tk_20 rfl (fz_3_0 hs) ?_
      refine q2_getR hs o_Tk_advance_35 f_Tk_39 rfl (fz_1_0 hs) ?_
      refine q_aload_n o_Tk_advance_38 rfl ?_
      refine q2_getI hs o_Tk_advance_39 f_Tk_24 rfl ?_
      obtain ⟨k99, eh98, bh98, h98⟩ := h97
      refine q2_cald hs o_Tk_advance_42 rfl eh98 bh98 (by decide) ?_
      refine q_bipush (v := 10) o_Tk_advance_43 (by decide) ?_
      refine q_icmp_ne o_Tk_advance_45 (fun c100 => ?_) (fun c100 => ?_)
      · have h101 := h98.1 c100
        refine q_aload_n o_Tk_advance_61 rfl ?_
        refine q_aload_n o_Tk_advance_62 rfl ?_
        refine q2_getI hs o_Tk_advance_63 f_Tk_24 rfl ?_
        refine q2_putI hs o_Tk_advance_66 fp_Tk_43 rfl rfl rfl ?_
        refine q_aload_n o_Tk_advance_69 rfl ?_
        refine q2_getI hs o_Tk_advance_70 f_Tk_24 rfl ?_
        refine q_aload_n o_Tk_advance_73 rfl ?_
        refine q2_getR hs o_Tk_advance_74 f_Tk_20 rfl (fz_3_0 hs) ?_
        refine q2_getI hs o_Tk_advance_77 f_Tk_34 rfl ?_
        refine q_icmp_ge o_Tk_advance_80 (fun c102 => ?_) (fun c102 => ?_)
        · have h103 := h101.1 c102
          refine q_bipush (v := 32) o_Tk_advance_98 (by decide) ?_
          refine q2_istn (ls' := [some (.ref 3), some (.int 32)]) o_Tk_advance_100 (Nat.le_of_ble_eq_true rfl) rfl ?_
          refine q_aload_n o_Tk_advance_101 rfl ?_
          refine q2_getI hs o_Tk_advance_102 f_Tk_24 rfl ?_
          refine q_aload_n o_Tk_advance_105 rfl ?_
          refine q2_getR hs o_Tk_advance_106 f_Tk_20 rfl (fz_3_0 hs) ?_
          refine q2_getI hs o_Tk_advance_109 f_Tk_34 rfl ?_
          refine q_icmp_lt o_Tk_advance_112 (fun c104 => ?_) (fun c104 => ?_)
          · have h105 := h103.1 c104
            refine q_iload_n o_Tk_advance_123 rfl ?_
            refine q_bipush (v := 97) o_Tk_advance_124 (by decide) ?_
            refine q_icmp_lt o_Tk_advance_126 (fun c106 => ?_) (fun c106 => ?_)
            · have h107 := h105.1 c106
              refine q_iload_n o_Tk_advance_142 rfl ?_
              refine q_bipush (v := 48) o_Tk_advance_143 (by decide) ?_
              refine q_icmp_lt o_Tk_advance_145 (fun c108 => ?_) (fun c108 => ?_)
              · have h109 := h107.1 c108
                refine q_aload_n o_Tk_advance_161 rfl ?_
                refine q_iload_n o_Tk_advance_162 rfl ?_
                refine q2_callVv _ (a := 3) (As := [.int 32]) (st := []) hs o_Tk_advance_163 k_Tk_55 rfl rfl (Nat.le_of_ble_eq_true rfl) h109 (fun σ111 hs112 h110 => ?_)
                exact q_vre o_Tk_advance_166 rfl h110
              · have h113 := h107.2 c108
                refine q_iload_n o_Tk_advance_148 rfl ?_
                refine q_bipush (v := 57) o_Tk_advance_149 (by decide) ?_
                refine q_icmp_gt o_Tk_advance_151 (fun c114 => ?_) (fun c114 => ?_)
                · have h115 := h113.1 c114
                  refine q_aload_n o_Tk_advance_161 rfl ?_
                  refine q_iload_n o_Tk_advance_162 rfl ?_
                  refine q2_callVv _ (a := 3) (As := [.int 32]) (st := []) hs o_Tk_advance_163 k_Tk_55 rfl rfl (Nat.le_of_ble_eq_true rfl) h115 (fun σ117 hs118 h116 => ?_)
                  exact q_vre o_Tk_advance_166 rfl h116
                · have h119 := h113.2 c114
                  refine q_aload_n o_Tk_advance_154 rfl ?_
                  refine q2_callVv _ (a := 3) (As := []) (st := []) hs o_Tk_advance_155 k_Tk_52 rfl rfl (Nat.le_of_ble_eq_true rfl) h119 (fun σ121 hs122 h120 => ?_)
                  refine q_goto o_Tk_advance_158 ?_
                  exact q_vre o_Tk_advance_166 rfl h120
            · have h123 := h105.2 c106
              refine q_iload_n o_Tk_advance_129 rfl ?_
              refine q_bipush (v := 122) o_Tk_advance_130 (by decide) ?_
              refine q_icmp_gt o_Tk_advance_132 (fun c124 => ?_) (fun c124 => ?_)
              · have h125 := h123.1 c124
                refine q_iload_n o_Tk_advance_142 rfl ?_
                refine q_bipush (v := 48) o_Tk_advance_143 (by decide) ?_
                refine q_icmp_lt o_Tk_advance_145 (fun c126 => ?_) (fun c126 => ?_)
                · have h127 := h125.1 c126
                  refine q_aload_n o_Tk_advance_161 rfl ?_
                  refine q_iload_n o_Tk_advance_162 rfl ?_
                  refine q2_callVv _ (a := 3) (As := [.int 32]) (st := []) hs o_Tk_advance_163 k_Tk_55 rfl rfl (Nat.le_of_ble_eq_true rfl) h127 (fun σ129 hs130 h128 => ?_)
                  exact q_vre o_Tk_advance_166 rfl h128
                · have h131 := h125.2 c126
                  refine q_iload_n o_Tk_advance_148 rfl ?_
                  refine q_bipush (v := 57) o_Tk_advance_149 (by decide) ?_
                  refine q_icmp_gt o_Tk_advance_151 (fun c132 => ?_) (fun c132 => ?_)
                  · have h133 := h131.1 c132
                    refine q_aload_n o_Tk_advance_161 rfl ?_
                    refine q_iload_n o_Tk_advance_162 rfl ?_
                    refine q2_callVv _ (a := 3) (As := [.int 32]) (st := []) hs o_Tk_advance_163 k_Tk_55 rfl rfl (Nat.le_of_ble_eq_true rfl) h133 (fun σ135 hs136 h134 => ?_)
                    exact q_vre o_Tk_advance_166 rfl h134
                  · have h137 := h131.2 c132
                    refine q_aload_n o_Tk_advance_154 rfl ?_
                    refine q2_callVv _ (a := 3) (As := []) (st := []) hs o_Tk_advance_155 k_Tk_52 rfl rfl (Nat.le_of_ble_eq_true rfl) h137 (fun σ139 hs140 h138 => ?_)
                    refine q_goto o_Tk_advance_158 ?_
                    exact q_vre o_Tk_advance_166 rfl h138
              · have h141 := h123.2 c124
                refine q_aload_n o_Tk_advance_135 rfl ?_
                refine q2_callVv _ (a := 3) (As := []) (st := []) hs o_Tk_advance_136 k_Tk_49 rfl rfl (Nat.le_of_ble_eq_true rfl) h141 (fun σ143 hs144 h142 => ?_)
                refine q_goto o_Tk_advance_139 ?_
                exact q_vre o_Tk_advance_166 rfl h142
          · have h145 := h103.2 c104
            refine q_aload_n o_Tk_advance_115 rfl ?_
            refine q_iconst (v := 0) o_Tk_advance_116 (by decide) ?_
            refine q2_putI hs o_Tk_advance_117 fp_Tk_46 rfl rfl rfl ?_
            refine q_goto o_Tk_advance_120 ?_
            exact q_vre o_Tk_advance_166 rfl h145
        · have h146 := h101.2 c102
          refine q_aload_n o_Tk_advance_83 rfl ?_
          refine q2_getR hs o_Tk_advance_84 f_Tk_20 rfl (fz_3_0 hs) ?_
          refine q2_getR hs o_Tk_advance_87 f_Tk_39 rfl (fz_1_0 hs) ?_
          refine q_aload_n o_Tk_advance_90 rfl ?_
          refine q2_getI hs o_Tk_advance_91 f_Tk_24 rfl ?_
          obtain ⟨k148, eh147, bh147, h147⟩ := h146
          refine q2_cald hs o_Tk_advance_94 rfl eh147 bh147 (by decide) ?_
          refine q_goto o_Tk_advance_95 ?_
          refine q2_istn (ls' := [some (.ref 3), some (.int (q_I (q_setI σ 3 2 (q_I σ 3 3)) 2 k148))]) o_Tk_advance_100 (Nat.le_of_ble_eq_true rfl) rfl ?_
          refine q_aload_n o_Tk_advance_101 rfl ?_
          refine q2_getI hs o_Tk_advance_102 f_Tk_24 rfl ?_
          refine q_aload_n o_Tk_advance_105 rfl ?_
          refine q2_getR hs o_Tk_advance_106 f_Tk_20 rfl (fz_3_0 hs) ?_
          refine q2_getI hs o_Tk_advance_109 f_Tk_34 rfl ?_
          refine q_icmp_lt o_Tk_advance_112 (fun c149 => ?_) (fun c149 => ?_)
          · have h150 := h147.1 c149
            refine q_iload_n o_Tk_advance_123 rfl ?_
            refine q_bipush (v := 97) o_Tk_advance_124 (by decide) ?_
            refine q_icmp_lt o_Tk_advance_126 (fun c151 => ?_) (fun c151 => ?_)
            · have h152 := h150.1 c151
              refine q_iload_n o_Tk_advance_142 rfl ?_
              refine q_bipush (v := 48) o_Tk_advance_143 (by decide) ?_
              refine q_icmp_lt o_Tk_advance_145 (fun c153 => ?_) (fun c153 => ?_)
              · have h154 := h152.1 c153
                refine q_aload_n o_Tk_advance_161 rfl ?_
                refine q_iload_n o_Tk_advance_162 rfl ?_
                refine q2_callVv _ (a := 3) (As := [.int (q_I (q_setI σ 3 2 (q_I σ 3 3)) 2 k148)]) (st := []) hs o_Tk_advance_163 k_Tk_55 rfl rfl (Nat.le_of_ble_eq_true rfl) h154 (fun σ156 hs157 h155 => ?_)
                exact q_vre o_Tk_advance_166 rfl h155
              · have h158 := h152.2 c153
                refine q_iload_n o_Tk_advance_148 rfl ?_
                refine q_bipush (v := 57) o_Tk_advance_149 (by decide) ?_
                refine q_icmp_gt o_Tk_advance_151 (fun c159 => ?_) (fun c159 => ?_)
                · have h160 := h158.1 c159
                  refine q_aload_n o_Tk_advance_161 rfl ?_
                  refine q_iload_n o_Tk_advance_162 rfl ?_
                  refine q2_callVv _ (a := 3) (As := [.int (q_I (q_setI σ 3 2 (q_I σ 3 3)) 2 k148)]) (st := []) hs o_Tk_advance_163 k_Tk_55 rfl rfl (Nat.le_of_ble_eq_true rfl) h160 (fun σ162 hs163 h161 => ?_)
                  exact q_vre o_Tk_advance_166 rfl h161
                · have h164 := h158.2 c159
                  refine q_aload_n o_Tk_advance_154 rfl ?_
                  refine q2_callVv _ (a := 3) (As := []) (st := []) hs o_Tk_advance_155 k_Tk_52 rfl rfl (Nat.le_of_ble_eq_true rfl) h164 (fun σ166 hs167 h165 => ?_)
                  refine q_goto o_Tk_advance_158 ?_
                  exact q_vre o_Tk_advance_166 rfl h165
            · have h168 := h150.2 c151
              refine q_iload_n o_Tk_advance_129 rfl ?_
              refine q_bipush (v := 122) o_Tk_advance_130 (by decide) ?_
              refine q_icmp_gt o_Tk_advance_132 (fun c169 => ?_) (fun c169 => ?_)
              · have h170 := h168.1 c169
                refine q_iload_n o_Tk_advance_142 rfl ?_
                refine q_bipush (v := 48) o_Tk_advance_143 (by decide) ?_
                refine q_icmp_lt o_Tk_advance_145 (fun c171 => ?_) (fun c171 => ?_)
                · have h172 := h170.1 c171
                  refine q_aload_n o_Tk_advance_161 rfl ?_
                  refine q_iload_n o_Tk_advance_162 rfl ?_
                  refine q2_callVv _ (a := 3) (As := [.int (q_I (q_setI σ 3 2 (q_I σ 3 3)) 2 k148)]) (st := []) hs o_Tk_advance_163 k_Tk_55 rfl rfl (Nat.le_of_ble_eq_true rfl) h172 (fun σ174 hs175 h173 => ?_)
                  exact q_vre o_Tk_advance_166 rfl h173
                · have h176 := h170.2 c171
                  refine q_iload_n o_Tk_advance_148 rfl ?_
                  refine q_bipush (v := 57) o_Tk_advance_149 (by decide) ?_
                  refine q_icmp_gt o_Tk_advance_151 (fun c177 => ?_) (fun c177 => ?_)
                  · have h178 := h176.1 c177
                    refine q_aload_n o_Tk_advance_161 rfl ?_
                    refine q_iload_n o_Tk_advance_162 rfl ?_
                    refine q2_callVv _ (a := 3) (As := [.int (q_I (q_setI σ 3 2 (q_I σ 3 3)) 2 k148)]) (st := []) hs o_Tk_advance_163 k_Tk_55 rfl rfl (Nat.le_of_ble_eq_true rfl) h178 (fun σ180 hs181 h179 => ?_)
                    exact q_vre o_Tk_advance_166 rfl h179
                  · have h182 := h176.2 c177
                    refine q_aload_n o_Tk_advance_154 rfl ?_
                    refine q2_callVv _ (a := 3) (As := []) (st := []) hs o_Tk_advance_155 k_Tk_52 rfl rfl (Nat.le_of_ble_eq_true rfl) h182 (fun σ184 hs185 h183 => ?_)
                    refine q_goto o_Tk_advance_158 ?_
                    exact q_vre o_Tk_advance_166 rfl h183
              · have h186 := h168.2 c169
                refine q_aload_n o_Tk_advance_135 rfl ?_
                refine q2_callVv _ (a := 3) (As := []) (st := []) hs o_Tk_advance_136 k_Tk_49 rfl rfl (Nat.le_of_ble_eq_true rfl) h186 (fun σ188 hs189 h187 => ?_)
                refine q_goto o_Tk_advance_139 ?_
                exact q_vre o_Tk_advance_166 rfl h187
          · have h190 := h147.2 c149
            refine q_aload_n o_Tk_advance_115 rfl ?_
            refine q_iconst (v := 0) o_Tk_advance_116 (by decide) ?_
            refine q2_putI hs o_Tk_advance_117 fp_Tk_46 rfl rfl rfl ?_
            refine q_goto o_Tk_advance_120 ?_
            exact q_vre o_Tk_advance_166 rfl h190
      · have h191 := h98.2 c100
        refine q_aload_n o_Tk_advance_48 rfl ?_
        refine q_dup o_Tk_advance_49 rfl ?_
        refine q2_getI hs o_Tk_advance_50 f_Tk_24 rfl ?_
        refine q_iconst (v := 1) o_Tk_advance_53 (by decide) ?_
        refine q_iadd o_Tk_advance_54 ?_
        refine q2_putI hs o_Tk_advance_55 fp_Tk_24 rfl rfl rfl ?_
        refine q_goto o_Tk_advance_58 ?_
        exact h191

set_option maxRecDepth 20000 in
theorem v_Tk_readWord_0 {G : q_G} {d : Nat} {σ : q_S} {Q : Option Value → q_S → Prop}   (hs : q_Sh σ) (h : q_At G X_Tk_readWord (d + 1) 0 0 5 [some (.ref 3), none] [] (q_setL σ 3 5 0) Q) : q_At G X_Tk_readWord (d + 1) 0 0 0 [some (.ref 3), none] [] σ Q := by
  refine q_aload_n o_Tk_readWord_0 rfl ?_
  refine q_lconst (v := 0) o_Tk_readWord_1 (by decide) ?_
  refine q2_putL hs o_Tk_readWord_2 fp_Tk_59 rfl rfl rfl ?_
  exact h

set_option maxRecDepth 20000 in
theorem v_Tk_readWord_5 {G : q_G} {d : Nat} {σ : q_S} {Q : Option Value → q_S → Prop}   (hs : q_Sh σ) (h : (((q_I σ 1 1) ≤ (q_I σ 3 3) → q_At G X_Tk_readWord (d + 1) 0 0 129 [some (.ref 3), some (.int 0)] [] (q_setR (q_setI σ 3 1 (if 8 < ((q_I σ 3 3) - (q_I σ 3 2)) then (4 : Int32) else (1 : Int32))) 3 4 (some (1001 + 33))) Q) ∧ (¬ (q_I σ 1 1) ≤ (q_I σ 3 3) → (∃ k6, (q_I σ 3 3) = nI k6 ∧ k6 < 1000 ∧ (((q_I σ 2 k6) < 97 → q_At G X_Tk_readWord (d + 1) 0 0 129 [some (.ref 3), some (.int 0)] [] (q_setR (q_setI σ 3 1 (if 8 < ((q_I σ 3 3) - (q_I σ 3 2)) then (4 : Int32) else (1 : Int32))) 3 4 (some (1001 + 33))) Q) ∧ (¬ (q_I σ 2 k6) < 97 → (∃ k12, (q_I σ 3 3) = nI k12 ∧ k12 < 1000 ∧ ((122 < (q_I σ 2 k12) → q_At G X_Tk_readWord (d + 1) 0 0 129 [some (.ref 3), some (.int 0)] [] (q_setR (q_setI σ 3 1 (if 8 < ((q_I σ 3 3) - (q_I σ 3 2)) then (4 : Int32) else (1 : Int32))) 3 4 (some (1001 + 33))) Q) ∧ (¬ 122 < (q_I σ 2 k12) → (∃ k18, (q_I σ 3 3) = nI k18 ∧ k18 < 1000 ∧ q_At G X_Tk_readWord (d + 1) 0 0 5 [some (.ref 3), none] [] (q_setI (q_setL σ 3 5 (((q_L σ 3 5) * 32) + (((q_I σ 2 k18) - 97) + 1).toInt64)) 3 3 ((q_I (q_setL σ 3 5 (((q_L σ 3 5) * 32) + (((q_I σ 2 k18) - 97) + 1).toInt64)) 3 3) + 1)) Q)))))))))) : q_At G X_Tk_readWord (d + 1) 0 0 5 [some (.ref 3), none] [] σ Q := by
  refine q_aload_n o_Tk_readWord_5 rfl ?_
  refine q2_getI hs o_Tk_readWord_6 f_Tk_24 rfl ?_
  refine q_aload_n o_Tk_readWord_9 rfl ?_
  refine q2_getR hs o_Tk_readWord_10 f_Tk_20 rfl (fz_3_0 hs) ?_
  refine q2_getI hs o_Tk_readWord_13 f_Tk_34 rfl ?_
  refine q_icmp_ge o_Tk_readWord_16 (fun c1 => ?_) (fun c1 => ?_)
  · have h2 := h.1 c1
    refine q_aload_n o_Tk_readWord_97 rfl ?_
    refine q_aload_n o_Tk_readWord_98 rfl ?_
    refine q2_getI hs o_Tk_readWord_99 f_Tk_24 rfl ?_
    refine q_aload_n o_Tk_readWord_102 rfl ?_
    refine q2_getI hs o_Tk_readWord_103 f_Tk_43 rfl ?_
    refine q_isub o_Tk_readWord_106 ?_
    refine q_bipush (v := 8) o_Tk_readWord_107 (by decide) ?_
    have hJ : ∀ vJ : Int32, vJ = (if 8 < ((q_I σ 3 3) - (q_I σ 3 2)) then (4 : Int32) else (1 : Int32)) → q_At G X_Tk_readWord (d + 1) 0 0 117 [some (.ref 3), none] [.int vJ, .ref 3] σ Q := by
      intro vJ eJ
      rw [eJ]
      clear eJ vJ
      refine q2_putI hs o_Tk_readWord_117 fp_Tk_46 rfl rfl rfl ?_
      refine q_aload_n o_Tk_readWord_120 rfl ?_
      refine q_gets (w := .ref (1001 + 33)) o_Tk_readWord_121 s_Tk_9 (fun U H hh => (hh.1 33 (by decide)).1) ?_
      refine q2_putR hs o_Tk_readWord_124 fp_Tk_15 rfl (fun _ => rfl) (fun _ => rfl) ?_
      refine q_iconst (v := 0) o_Tk_readWord_127 (by decide) ?_
      refine q2_istn (ls' := [some (.ref 3), some (.int 0)]) o_Tk_readWord_128 (Nat.le_of_ble_eq_true rfl) rfl ?_
      exact h2
    refine q_icmp_gt o_Tk_readWord_109 (fun c3 => ?_) (fun c3 => ?_)
    · refine q_iconst (v := 4) o_Tk_readWord_116 (by decide) ?_
      exact hJ _ (Eq.symm (if_pos c3))
    · refine q_iconst (v := 1) o_Tk_readWord_112 (by decide) ?_
      refine q_goto o_Tk_readWord_113 ?_
      exact hJ _ (Eq.symm (if_neg c3))
  · have h4 := h.2 c1
    refine q_aload_n o_Tk_readWord_19 rfl ?_
    refine q2_getR hs o_Tk_readWord_20 f_Tk_20 rfl (fz_3_0 hs) ?_
    refine q2_getR hs o_Tk_readWord_23 f_Tk_39 rfl (fz_1_0 hs) ?_
    refine q_aload_n o_Tk_readWord_26 rfl ?_
    refine q2_getI hs o_Tk_readWord_27 f_Tk_24 rfl ?_
    obtain ⟨k6, eh5, bh5, h5⟩ := h4
    refine q2_cald hs o_Tk_readWord_30 rfl eh5 bh5 (by decide) ?_
    refine q_bipush (v := 97) o_Tk_readWord_31 (by decide) ?_
    refine q_icmp_lt o_Tk_readWord_33 (fun c7 => ?_) (fun c7 => ?_)
    · have h8 := h5.1 c7
      refine q_aload_n o_Tk_readWord_97 rfl ?_
      refine q_aload_n o_Tk_readWord_98 rfl ?_
      refine q2_getI hs o_Tk_readWord_99 f_Tk_24 rfl ?_
      refine q_aload_n o_Tk_readWord_102 rfl ?_
      refine q2_getI hs o_Tk_readWord_103 f_Tk_43 rfl ?_
      refine q_isub o_Tk_readWord_106 ?_
      refine q_bipush (v := 8) o_Tk_readWord_107 (by decide) ?_
      have hJ : ∀ vJ : Int32, vJ = (if 8 < ((q_I σ 3 3) - (q_I σ 3 2)) then (4 : Int32) else (1 : Int32)) → q_At G X_Tk_readWord (d + 1) 0 0 117 [some (.ref 3), none] [.int vJ, .ref 3] σ Q := by
        intro vJ eJ
        rw [eJ]
        clear eJ vJ
        refine q2_putI hs o_Tk_readWord_117 fp_Tk_46 rfl rfl rfl ?_
        refine q_aload_n o_Tk_readWord_120 rfl ?_
        refine q_gets (w := .ref (1001 + 33)) o_Tk_readWord_121 s_Tk_9 (fun U H hh => (hh.1 33 (by decide)).1) ?_
        refine q2_putR hs o_Tk_readWord_124 fp_Tk_15 rfl (fun _ => rfl) (fun _ => rfl) ?_
        refine q_iconst (v := 0) o_Tk_readWord_127 (by decide) ?_
        refine q2_istn (ls' := [some (.ref 3), some (.int 0)]) o_Tk_readWord_128 (Nat.le_of_ble_eq_true rfl) rfl ?_
        exact h8
      refine q_icmp_gt o_Tk_readWord_109 (fun c9 => ?_) (fun c9 => ?_)
      · refine q_iconst (v := 4) o_Tk_readWord_116 (by decide) ?_
        exact hJ _ (Eq.symm (if_pos c9))
      · refine q_iconst (v := 1) o_Tk_readWord_112 (by decide) ?_
        refine q_goto o_Tk_readWord_113 ?_
        exact hJ _ (Eq.symm (if_neg c9))
    · have h10 := h5.2 c7
      refine q_aload_n o_Tk_readWord_36 rfl ?_
      refine q2_getR hs o_Tk_readWord_37 f_Tk_20 rfl (fz_3_0 hs) ?_
      refine q2_getR hs o_Tk_readWord_40 f_Tk_39 rfl (fz_1_0 hs) ?_
      refine q_aload_n o_Tk_readWord_43 rfl ?_
      refine q2_getI hs o_Tk_readWord_44 f_Tk_24 rfl ?_
      obtain ⟨k12, eh11, bh11, h11⟩ := h10
      refine q2_cald hs o_Tk_readWord_47 rfl eh11 bh11 (by decide) ?_
      refine q_bipush (v := 122) o_Tk_readWord_48 (by decide) ?_
      refine q_icmp_gt o_Tk_readWord_50 (fun c13 => ?_) (fun c13 => ?_)
      · have h14 := h11.1 c13
        refine q_aload_n o_Tk_readWord_97 rfl ?_
        refine q_aload_n o_Tk_readWord_98 rfl ?_
        refine q2_getI hs o_Tk_readWord_99 f_Tk_24 rfl ?_
        refine q_aload_n o_Tk_readWord_102 rfl ?_
        refine q2_getI hs o_Tk_readWord_103 f_Tk_43 rfl ?_
        refine q_isub o_Tk_readWord_106 ?_
        refine q_bipush (v := 8) o_Tk_readWord_107 (by decide) ?_
        have hJ : ∀ vJ : Int32, vJ = (if 8 < ((q_I σ 3 3) - (q_I σ 3 2)) then (4 : Int32) else (1 : Int32)) → q_At G X_Tk_readWord (d + 1) 0 0 117 [some (.ref 3), none] [.int vJ, .ref 3] σ Q := by
          intro vJ eJ
          rw [eJ]
          clear eJ vJ
          refine q2_putI hs o_Tk_readWord_117 fp_Tk_46 rfl rfl rfl ?_
          refine q_aload_n o_Tk_readWord_120 rfl ?_
          refine q_gets (w := .ref (1001 + 33)) o_Tk_readWord_121 s_Tk_9 (fun U H hh => (hh.1 33 (by decide)).1) ?_
          refine q2_putR hs o_Tk_readWord_124 fp_Tk_15 rfl (fun _ => rfl) (fun _ => rfl) ?_
          refine q_iconst (v := 0) o_Tk_readWord_127 (by decide) ?_
          refine q2_istn (ls' := [some (.ref 3), some (.int 0)]) o_Tk_readWord_128 (Nat.le_of_ble_eq_true rfl) rfl ?_
          exact h14
        refine q_icmp_gt o_Tk_readWord_109 (fun c15 => ?_) (fun c15 => ?_)
        · refine q_iconst (v := 4) o_Tk_readWord_116 (by decide) ?_
          exact hJ _ (Eq.symm (if_pos c15))
        · refine q_iconst (v := 1) o_Tk_readWord_112 (by decide) ?_
          refine q_goto o_Tk_readWord_113 ?_
          exact hJ _ (Eq.symm (if_neg c15))
      · have h16 := h11.2 c13
        refine q_aload_n o_Tk_readWord_53 rfl ?_
        refine q_aload_n o_Tk_readWord_54 rfl ?_
        refine q2_getL hs o_Tk_readWord_55 f_Tk_59 rfl ?_
        refine q_ldc2 o_Tk_readWord_58 n_Tk_63 ?_
        refine q_lmul o_Tk_readWord_61 ?_
        refine q_aload_n o_Tk_readWord_62 rfl ?_
        refine q2_getR hs o_Tk_readWord_63 f_Tk_20 rfl (fz_3_0 hs) ?_
        refine q2_getR hs o_Tk_readWord_66 f_Tk_39 rfl (fz_1_0 hs) ?_
        refine q_aload_n o_Tk_readWord_69 rfl ?_
        refine q2_getI hs o_Tk_readWord_70 f_Tk_24 rfl ?_
        obtain ⟨k18, eh17, bh17, h17⟩ := h16
        refine q2_cald hs o_Tk_readWord_73 rfl eh17 bh17 (by decide) ?_
        refine q_bipush (v := 97) o_Tk_readWord_74 (by decide) ?_
        refine q_isub o_Tk_readWord_76 ?_
        refine q_iconst (v := 1) o_Tk_readWord_77 (by decide) ?_
        refine q_iadd o_Tk_readWord_78 ?_
        refine q_i2l o_Tk_readWord_79 ?_
        refine q_ladd o_Tk_readWord_80 ?_
        refine q2_putL hs o_Tk_readWord_81 fp_Tk_59 rfl rfl rfl ?_
        refine q_aload_n o_Tk_readWord_84 rfl ?_
        refine q_dup o_Tk_readWord_85 rfl ?_
        refine q2_getI hs o_Tk_readWord_86 f_Tk_24 rfl ?_
        refine q_iconst (v := 1) o_Tk_readWord_89 (by decide) ?_
        refine q_iadd o_Tk_readWord_90 ?_
        refine q2_putI hs o_Tk_readWord_91 fp_Tk_24 rfl rfl rfl ?_
        refine q_goto o_Tk_readWord_94 ?_
        exact h17

set_option maxRecDepth 20000 in
theorem v_Tk_readWord_129 {G : q_G} {d : Nat} {σ : q_S} {Q : Option Value → q_S → Prop} {l1 : Int32}  (hs : q_Sh σ) (h : (((nI 34) ≤ l1 → Q none σ) ∧ (¬ (nI 34) ≤ l1 → (∃ k5, l1 = nI k5 ∧ k5 < 34 ∧ ((¬ (lg_cmp (q_wl64.getD k5 0) (q_L σ 3 5)) = 0 → q_At G X_Tk_readWord (d + 1) 0 0 129 [some (.ref 3), some (.int (l1 + 1))] [] σ Q) ∧ ((lg_cmp (q_wl64.getD k5 0) (q_L σ 3 5)) = 0 → (∃ k10, l1 = nI k10 ∧ k10 < 34 ∧ q_At G X_Tk_readWord (d + 1) 0 0 129 [some (.ref 3), some (.int (l1 + 1))] [] (q_setR σ 3 4 (some (1001 + k10))) Q))))))) : q_At G X_Tk_readWord (d + 1) 0 0 129 [some (.ref 3), some (.int l1)] [] σ Q := by
  refine q_iload_n o_Tk_readWord_129 rfl ?_
  refine q_gets (w := .ref 1040) o_Tk_readWord_130 s_Tk_65 (fun U H hh => hh.2.2.1.1) ?_
  refine q_tlen o_Tk_readWord_133 (fun U H hh => hh.2.2.1.2) ?_
  refine q_icmp_ge o_Tk_readWord_134 (fun c1 => ?_) (fun c1 => ?_)
  · have h2 := h.1 c1
    exact q_vre o_Tk_readWord_168 rfl h2
  · have h3 := h.2 c1
    refine q_gets (w := .ref 1040) o_Tk_readWord_137 s_Tk_65 (fun U H hh => hh.2.2.1.1) ?_
    refine q_iload_n o_Tk_readWord_140 rfl ?_
    obtain ⟨k5, eh4, bh4, h4⟩ := h3
    refine q_tq (w := .ref (1001 + k5)) o_Tk_readWord_141 (fun U H hh => hh.2.2.1.2) eh4 bh4 (by decide) (by show _ = Value.ref _; rw [q_ad_ge (by omega)]) ?_
    refine q_getS (w := .long (q_wl64.getD k5 0)) o_Tk_readWord_142 fs_Tk_69 (fun U H hh => by rw [q_ad_ge (by omega)]; exact (hh.1 _ bh4).2.2.2.1) ?_
    refine q_aload_n o_Tk_readWord_145 rfl ?_
    refine q2_getL hs o_Tk_readWord_146 f_Tk_59 rfl ?_
    refine q_lcmp o_Tk_readWord_149 ?_
    refine q_if_ne o_Tk_readWord_150 (fun c6 => ?_) (fun c6 => ?_)
    · have h7 := h4.1 c6
      refine q2_inc (v := (l1 + 1)) (ls' := [some (.ref 3), some (.int (l1 + 1))]) o_Tk_readWord_162 rfl rfl (Nat.le_of_ble_eq_true rfl) rfl ?_
      refine q_goto o_Tk_readWord_165 ?_
      exact h7
    · have h8 := h4.2 c6
      refine q_aload_n o_Tk_readWord_153 rfl ?_
      refine q_gets (w := .ref 1040) o_Tk_readWord_154 s_Tk_65 (fun U H hh => hh.2.2.1.1) ?_
      refine q_iload_n o_Tk_readWord_157 rfl ?_
      obtain ⟨k10, eh9, bh9, h9⟩ := h8
      refine q_tq (w := .ref (1001 + k10)) o_Tk_readWord_158 (fun U H hh => hh.2.2.1.2) eh9 bh9 (by decide) (by show _ = Value.ref _; rw [q_ad_ge (by omega)]) ?_
      refine q2_putR hs o_Tk_readWord_159 fp_Tk_15 rfl (fun _ => rfl) (fun _ => rfl) ?_
      refine q2_inc (v := (l1 + 1)) (ls' := [some (.ref 3), some (.int (l1 + 1))]) o_Tk_readWord_162 rfl rfl (Nat.le_of_ble_eq_true rfl) rfl ?_
      refine q_goto o_Tk_readWord_165 ?_
      exact h9

set_option maxRecDepth 20000 in
theorem v_Tk_readNumber_0 {G : q_G} {d : Nat} {σ : q_S} {Q : Option Value → q_S → Prop}   (hs : q_Sh σ) (h : q_At G X_Tk_readNumber (d + 1) 0 0 5 [some (.ref 3)] [] (q_setI σ 3 6 0) Q) : q_At G X_Tk_readNumber (d + 1) 0 0 0 [some (.ref 3)] [] σ Q := by
  refine q_aload_n o_Tk_readNumber_0 rfl ?_
  refine q_iconst (v := 0) o_Tk_readNumber_1 (by decide) ?_
  refine q2_putI hs o_Tk_readNumber_2 fp_Tk_70 rfl rfl rfl ?_
  exact h

set_option maxRecDepth 20000 in
theorem v_Tk_readNumber_5 {G : q_G} {d : Nat} {σ : q_S} {Q : Option Value → q_S → Prop}   (hs : q_Sh σ) (h : (((q_I σ 1 1) ≤ (q_I σ 3 3) → Q none (q_setI σ 3 1 (if 4 < ((q_I σ 3 3) - (q_I σ 3 2)) then (4 : Int32) else (2 : Int32)))) ∧ (¬ (q_I σ 1 1) ≤ (q_I σ 3 3) → (∃ k6, (q_I σ 3 3) = nI k6 ∧ k6 < 1000 ∧ (((q_I σ 2 k6) < 48 → Q none (q_setI σ 3 1 (if 4 < ((q_I σ 3 3) - (q_I σ 3 2)) then (4 : Int32) else (2 : Int32)))) ∧ (¬ (q_I σ 2 k6) < 48 → (∃ k12, (q_I σ 3 3) = nI k12 ∧ k12 < 1000 ∧ ((57 < (q_I σ 2 k12) → Q none (q_setI σ 3 1 (if 4 < ((q_I σ 3 3) - (q_I σ 3 2)) then (4 : Int32) else (2 : Int32)))) ∧ (¬ 57 < (q_I σ 2 k12) → (∃ k18, (q_I σ 3 3) = nI k18 ∧ k18 < 1000 ∧ q_At G X_Tk_readNumber (d + 1) 0 0 5 [some (.ref 3)] [] (q_setI (q_setI σ 3 6 (((q_I σ 3 6) * 10) + ((q_I σ 2 k18) - 48))) 3 3 ((q_I (q_setI σ 3 6 (((q_I σ 3 6) * 10) + ((q_I σ 2 k18) - 48))) 3 3) + 1)) Q)))))))))) : q_At G X_Tk_readNumber (d + 1) 0 0 5 [some (.ref 3)] [] σ Q := by
  refine q_aload_n o_Tk_readNumber_5 rfl ?_
  refine q2_getI hs o_Tk_readNumber_6 f_Tk_24 rfl ?_
  refine q_aload_n o_Tk_readNumber_9 rfl ?_
  refine q2_getR hs o_Tk_readNumber_10 f_Tk_20 rfl (fz_3_0 hs) ?_
  refine q2_getI hs o_Tk_readNumber_13 f_Tk_34 rfl ?_
  refine q_icmp_ge o_Tk_readNumber_16 (fun c1 => ?_) (fun c1 => ?_)
  · have h2 := h.1 c1
    refine q_aload_n o_Tk_readNumber_93 rfl ?_
    refine q_aload_n o_Tk_readNumber_94 rfl ?_
    refine q2_getI hs o_Tk_readNumber_95 f_Tk_24 rfl ?_
    refine q_aload_n o_Tk_readNumber_98 rfl ?_
    refine q2_getI hs o_Tk_readNumber_99 f_Tk_43 rfl ?_
    refine q_isub o_Tk_readNumber_102 ?_
    refine q_iconst (v := 4) o_Tk_readNumber_103 (by decide) ?_
    have hJ : ∀ vJ : Int32, vJ = (if 4 < ((q_I σ 3 3) - (q_I σ 3 2)) then (4 : Int32) else (2 : Int32)) → q_At G X_Tk_readNumber (d + 1) 0 0 112 [some (.ref 3)] [.int vJ, .ref 3] σ Q := by
      intro vJ eJ
      rw [eJ]
      clear eJ vJ
      refine q2_putI hs o_Tk_readNumber_112 fp_Tk_46 rfl rfl rfl ?_
      exact q_vre o_Tk_readNumber_115 rfl h2
    refine q_icmp_gt o_Tk_readNumber_104 (fun c3 => ?_) (fun c3 => ?_)
    · refine q_iconst (v := 4) o_Tk_readNumber_111 (by decide) ?_
      exact hJ _ (Eq.symm (if_pos c3))
    · refine q_iconst (v := 2) o_Tk_readNumber_107 (by decide) ?_
      refine q_goto o_Tk_readNumber_108 ?_
      exact hJ _ (Eq.symm (if_neg c3))
  · have h4 := h.2 c1
    refine q_aload_n o_Tk_readNumber_19 rfl ?_
    refine q2_getR hs o_Tk_readNumber_20 f_Tk_20 rfl (fz_3_0 hs) ?_
    refine q2_getR hs o_Tk_readNumber_23 f_Tk_39 rfl (fz_1_0 hs) ?_
    refine q_aload_n o_Tk_readNumber_26 rfl ?_
    refine q2_getI hs o_Tk_readNumber_27 f_Tk_24 rfl ?_
    obtain ⟨k6, eh5, bh5, h5⟩ := h4
    refine q2_cald hs o_Tk_readNumber_30 rfl eh5 bh5 (by decide) ?_
    refine q_bipush (v := 48) o_Tk_readNumber_31 (by decide) ?_
    refine q_icmp_lt o_Tk_readNumber_33 (fun c7 => ?_) (fun c7 => ?_)
    · have h8 := h5.1 c7
      refine q_aload_n o_Tk_readNumber_93 rfl ?_
      refine q_aload_n o_Tk_readNumber_94 rfl ?_
      refine q2_getI hs o_Tk_readNumber_95 f_Tk_24 rfl ?_
      refine q_aload_n o_Tk_readNumber_98 rfl ?_
      refine q2_getI hs o_Tk_readNumber_99 f_Tk_43 rfl ?_
      refine q_isub o_Tk_readNumber_102 ?_
      refine q_iconst (v := 4) o_Tk_readNumber_103 (by decide) ?_
      have hJ : ∀ vJ : Int32, vJ = (if 4 < ((q_I σ 3 3) - (q_I σ 3 2)) then (4 : Int32) else (2 : Int32)) → q_At G X_Tk_readNumber (d + 1) 0 0 112 [some (.ref 3)] [.int vJ, .ref 3] σ Q := by
        intro vJ eJ
        rw [eJ]
        clear eJ vJ
        refine q2_putI hs o_Tk_readNumber_112 fp_Tk_46 rfl rfl rfl ?_
        exact q_vre o_Tk_readNumber_115 rfl h8
      refine q_icmp_gt o_Tk_readNumber_104 (fun c9 => ?_) (fun c9 => ?_)
      · refine q_iconst (v := 4) o_Tk_readNumber_111 (by decide) ?_
        exact hJ _ (Eq.symm (if_pos c9))
      · refine q_iconst (v := 2) o_Tk_readNumber_107 (by decide) ?_
        refine q_goto o_Tk_readNumber_108 ?_
        exact hJ _ (Eq.symm (if_neg c9))
    · have h10 := h5.2 c7
      refine q_aload_n o_Tk_readNumber_36 rfl ?_
      refine q2_getR hs o_Tk_readNumber_37 f_Tk_20 rfl (fz_3_0 hs) ?_
      refine q2_getR hs o_Tk_readNumber_40 f_Tk_39 rfl (fz_1_0 hs) ?_
      refine q_aload_n o_Tk_readNumber_43 rfl ?_
      refine q2_getI hs o_Tk_readNumber_44 f_Tk_24 rfl ?_
      obtain ⟨k12, eh11, bh11, h11⟩ := h10
      refine q2_cald hs o_Tk_readNumber_47 rfl eh11 bh11 (by decide) ?_
      refine q_bipush (v := 57) o_Tk_readNumber_48 (by decide) ?_
      refine q_icmp_gt o_Tk_readNumber_50 (fun c13 => ?_) (fun c13 => ?_)
      · have h14 := h11.1 c13
        refine q_aload_n o_Tk_readNumber_93 rfl ?_
        refine q_aload_n o_Tk_readNumber_94 rfl ?_
        refine q2_getI hs o_Tk_readNumber_95 f_Tk_24 rfl ?_
        refine q_aload_n o_Tk_readNumber_98 rfl ?_
        refine q2_getI hs o_Tk_readNumber_99 f_Tk_43 rfl ?_
        refine q_isub o_Tk_readNumber_102 ?_
        refine q_iconst (v := 4) o_Tk_readNumber_103 (by decide) ?_
        have hJ : ∀ vJ : Int32, vJ = (if 4 < ((q_I σ 3 3) - (q_I σ 3 2)) then (4 : Int32) else (2 : Int32)) → q_At G X_Tk_readNumber (d + 1) 0 0 112 [some (.ref 3)] [.int vJ, .ref 3] σ Q := by
          intro vJ eJ
          rw [eJ]
          clear eJ vJ
          refine q2_putI hs o_Tk_readNumber_112 fp_Tk_46 rfl rfl rfl ?_
          exact q_vre o_Tk_readNumber_115 rfl h14
        refine q_icmp_gt o_Tk_readNumber_104 (fun c15 => ?_) (fun c15 => ?_)
        · refine q_iconst (v := 4) o_Tk_readNumber_111 (by decide) ?_
          exact hJ _ (Eq.symm (if_pos c15))
        · refine q_iconst (v := 2) o_Tk_readNumber_107 (by decide) ?_
          refine q_goto o_Tk_readNumber_108 ?_
          exact hJ _ (Eq.symm (if_neg c15))
      · have h16 := h11.2 c13
        refine q_aload_n o_Tk_readNumber_53 rfl ?_
        refine q_aload_n o_Tk_readNumber_54 rfl ?_
        refine q2_getI hs o_Tk_readNumber_55 f_Tk_70 rfl ?_
        refine q_bipush (v := 10) o_Tk_readNumber_58 (by decide) ?_
        refine q_imul o_Tk_readNumber_60 ?_
        refine q_aload_n o_Tk_readNumber_61 rfl ?_
        refine q2_getR hs o_Tk_readNumber_62 f_Tk_20 rfl (fz_3_0 hs) ?_
        refine q2_getR hs o_Tk_readNumber_65 f_Tk_39 rfl (fz_1_0 hs) ?_
        refine q_aload_n o_Tk_readNumber_68 rfl ?_
        refine q2_getI hs o_Tk_readNumber_69 f_Tk_24 rfl ?_
        obtain ⟨k18, eh17, bh17, h17⟩ := h16
        refine q2_cald hs o_Tk_readNumber_72 rfl eh17 bh17 (by decide) ?_
        refine q_bipush (v := 48) o_Tk_readNumber_73 (by decide) ?_
        refine q_isub o_Tk_readNumber_75 ?_
        refine q_iadd o_Tk_readNumber_76 ?_
        refine q2_putI hs o_Tk_readNumber_77 fp_Tk_70 rfl rfl rfl ?_
        refine q_aload_n o_Tk_readNumber_80 rfl ?_
        refine q_dup o_Tk_readNumber_81 rfl ?_
        refine q2_getI hs o_Tk_readNumber_82 f_Tk_24 rfl ?_
        refine q_iconst (v := 1) o_Tk_readNumber_85 (by decide) ?_
        refine q_iadd o_Tk_readNumber_86 ?_
        refine q2_putI hs o_Tk_readNumber_87 fp_Tk_24 rfl rfl rfl ?_
        refine q_goto o_Tk_readNumber_90 ?_
        exact h17

set_option maxRecDepth 20000 in
theorem v_Tk_readSign_0 {G : q_G} {d : Nat} {σ : q_S} {Q : Option Value → q_S → Prop} {p0 : Int32}  (hs : q_Sh σ) (h : (narrow .char (.int p0) = .int p0 ∧ fits .char (.int p0) = true ∧ Q none (q_setI (q_setI (q_setI σ 3 7 p0) 3 1 (if (q_ixs p0) < 0 then (4 : Int32) else (3 : Int32))) 3 3 ((q_I (q_setI (q_setI σ 3 7 p0) 3 1 (if (q_ixs p0) < 0 then (4 : Int32) else (3 : Int32))) 3 3) + 1)))) : q_At G X_Tk_readSign (d + 5) 0 0 0 [some (.ref 3), some (.int p0)] [] σ Q := by
  refine q_aload_n o_Tk_readSign_0 rfl ?_
  refine q_iload_n o_Tk_readSign_1 rfl ?_
  obtain ⟨nh1, fh1, h1⟩ := h
  refine q2_putI hs o_Tk_readSign_2 fp_Tk_73 rfl nh1 fh1 ?_
  refine q_aload_n o_Tk_readSign_5 rfl ?_
  refine q_ldcS o_Tk_readSign_6 rfl ?_
  refine q_iload_n o_Tk_readSign_8 rfl ?_
  refine q2_ixs hs o_Tk_readSign_9 k_Tk_79 (Nat.le_of_ble_eq_true rfl) ?_
  have hJ : ∀ vJ : Int32, vJ = (if (q_ixs p0) < 0 then (4 : Int32) else (3 : Int32)) → q_At G X_Tk_readSign (d + 5) 0 0 20 [some (.ref 3), some (.int p0)] [.int vJ, .ref 3] (q_setI σ 3 7 p0) Q := by
    intro vJ eJ
    rw [eJ]
    clear eJ vJ
    refine q2_putI hs o_Tk_readSign_20 fp_Tk_46 rfl rfl rfl ?_
    refine q_aload_n o_Tk_readSign_23 rfl ?_
    refine q_dup o_Tk_readSign_24 rfl ?_
    refine q2_getI hs o_Tk_readSign_25 f_Tk_24 rfl ?_
    refine q_iconst (v := 1) o_Tk_readSign_28 (by decide) ?_
    refine q_iadd o_Tk_readSign_29 ?_
    refine q2_putI hs o_Tk_readSign_30 fp_Tk_24 rfl rfl rfl ?_
    exact q_vre o_Tk_readSign_33 rfl h1
  refine q_if_lt o_Tk_readSign_12 (fun c2 => ?_) (fun c2 => ?_)
  · refine q_iconst (v := 4) o_Tk_readSign_19 (by decide) ?_
    exact hJ _ (Eq.symm (if_pos c2))
  · refine q_iconst (v := 3) o_Tk_readSign_15 (by decide) ?_
    refine q_goto o_Tk_readSign_16 ?_
    exact hJ _ (Eq.symm (if_neg c2))

set_option maxRecDepth 20000 in
theorem v_Tk_refuse_0 {G : q_G} {d : Nat} {σ : q_S} {Q : Option Value → q_S → Prop} {p0 : Int32}  (hs : q_Sh σ) (h : Q (some (.int 0)) (q_setI σ 3 9 (p0 + (16 * (q_I σ 3 2))))) : q_At G X_Tk_refuse (d + 1) 0 0 0 [some (.ref 3), some (.int p0)] [] σ Q := by
  refine q_aload_n o_Tk_refuse_0 rfl ?_
  refine q_iload_n o_Tk_refuse_1 rfl ?_
  refine q_bipush (v := 16) o_Tk_refuse_2 (by decide) ?_
  refine q_aload_n o_Tk_refuse_4 rfl ?_
  refine q2_getI hs o_Tk_refuse_5 f_Tk_43 rfl ?_
  refine q_imul o_Tk_refuse_8 ?_
  refine q_iadd o_Tk_refuse_9 ?_
  refine q2_putI hs o_Tk_refuse_10 fp_Tk_28 rfl rfl rfl ?_
  refine q_iconst (v := 0) o_Tk_refuse_13 (by decide) ?_
  exact q_zre o_Tk_refuse_14 rfl rfl h

set_option maxRecDepth 20000 in
theorem v_Tk_isName_0 {G : q_G} {d : Nat} {σ : q_S} {Q : Option Value → q_S → Prop}   (hs : q_Sh σ) (h : ((¬ (q_I σ 3 1) = 1 → Q (some (.int 0)) σ) ∧ ((q_I σ 3 1) = 1 → (∃ k5, q_R σ 3 4 = some (1001 + k5) ∧ k5 < 34 ∧ (narrow .boolean (.int (if (q_wcn.getD k5 0) = 0 then (0 : Int32) else (1 : Int32))) = .int (if (q_wcn.getD k5 0) = 0 then (0 : Int32) else (1 : Int32)) ∧ Q (some (.int (if (q_wcn.getD k5 0) = 0 then (0 : Int32) else (1 : Int32)))) σ))))) : q_At G X_Tk_isName (d + 1) 0 0 0 [some (.ref 3)] [] σ Q := by
  refine q_aload_n o_Tk_isName_0 rfl ?_
  refine q2_getI hs o_Tk_isName_1 f_Tk_46 rfl ?_
  refine q_iconst (v := 1) o_Tk_isName_4 (by decide) ?_
  refine q_icmp_ne o_Tk_isName_5 (fun c1 => ?_) (fun c1 => ?_)
  · have h2 := h.1 c1
    refine q_iconst (v := 0) o_Tk_isName_22 (by decide) ?_
    exact q_zre o_Tk_isName_23 rfl rfl h2
  · have h3 := h.2 c1
    refine q_aload_n o_Tk_isName_8 rfl ?_
    obtain ⟨k5, eh4, bh4, h4⟩ := h3
    refine q2_getR hs o_Tk_isName_9 f_Tk_15 rfl eh4 ?_
    refine q_getS (w := .int (q_wcn.getD k5 0)) o_Tk_isName_12 fs_Tk_85 (fun U H hh => by rw [q_ad_ge (by omega)]; exact (hh.1 _ bh4).2.2.2.2) ?_
    have hJ : ∀ vJ : Int32, vJ = (if (q_wcn.getD k5 0) = 0 then (0 : Int32) else (1 : Int32)) → q_At G X_Tk_isName (d + 1) 0 0 23 [some (.ref 3)] [.int vJ] σ Q := by
      intro vJ eJ
      rw [eJ]
      clear eJ vJ
      exact q_zre o_Tk_isName_23 rfl h4.1 h4.2
    refine q_if_eq o_Tk_isName_15 (fun c6 => ?_) (fun c6 => ?_)
    · refine q_iconst (v := 0) o_Tk_isName_22 (by decide) ?_
      exact hJ _ (Eq.symm (if_pos c6))
    · refine q_iconst (v := 1) o_Tk_isName_18 (by decide) ?_
      refine q_goto o_Tk_isName_19 ?_
      exact hJ _ (Eq.symm (if_neg c6))

set_option maxRecDepth 20000 in
theorem v_Tk_isWord_0 {G : q_G} {d : Nat} {σ : q_S} {Q : Option Value → q_S → Prop} {p0 : Nat} (hp0 : p0 < 34) (hs : q_Sh σ) (h : ((¬ (q_I σ 3 1) = 1 → Q (some (.int 0)) σ) ∧ ((q_I σ 3 1) = 1 → (∃ k5, q_R σ 3 4 = some (1001 + k5) ∧ k5 < 34 ∧ ((¬ k5 = p0 → Q (some (.int 0)) σ) ∧ (k5 = p0 → Q (some (.int 1)) σ)))))) : q_At G X_Tk_isWord (d + 1) 0 0 0 [some (.ref 3), some (.ref (1001 + p0))] [] σ Q := by
  refine q_aload_n o_Tk_isWord_0 rfl ?_
  refine q2_getI hs o_Tk_isWord_1 f_Tk_46 rfl ?_
  refine q_iconst (v := 1) o_Tk_isWord_4 (by decide) ?_
  refine q_icmp_ne o_Tk_isWord_5 (fun c1 => ?_) (fun c1 => ?_)
  · have h2 := h.1 c1
    refine q_iconst (v := 0) o_Tk_isWord_20 (by decide) ?_
    exact q_zre o_Tk_isWord_21 rfl rfl h2
  · have h3 := h.2 c1
    refine q_aload_n o_Tk_isWord_8 rfl ?_
    obtain ⟨k5, eh4, bh4, h4⟩ := h3
    refine q2_getR hs o_Tk_isWord_9 f_Tk_15 rfl eh4 ?_
    refine q_aload_n o_Tk_isWord_12 rfl ?_
    refine q_acmp_ne o_Tk_isWord_13 bh4 hp0 (fun c6 => ?_) (fun c6 => ?_)
    · have h7 := h4.1 c6
      refine q_iconst (v := 0) o_Tk_isWord_20 (by decide) ?_
      exact q_zre o_Tk_isWord_21 rfl rfl h7
    · have h8 := h4.2 c6
      refine q_iconst (v := 1) o_Tk_isWord_16 (by decide) ?_
      refine q_goto o_Tk_isWord_17 ?_
      exact q_zre o_Tk_isWord_21 rfl rfl h8

set_option maxRecDepth 20000 in
theorem v_Tk_isSign_0 {G : q_G} {d : Nat} {σ : q_S} {Q : Option Value → q_S → Prop} {p0 : Int32}  (hs : q_Sh σ) (h : (narrow .boolean (.int (if (q_I σ 3 1) = 3 then (if (q_I σ 3 7) = p0 then (1 : Int32) else (0 : Int32)) else (0 : Int32))) = .int (if (q_I σ 3 1) = 3 then (if (q_I σ 3 7) = p0 then (1 : Int32) else (0 : Int32)) else (0 : Int32)) ∧ Q (some (.int (if (q_I σ 3 1) = 3 then (if (q_I σ 3 7) = p0 then (1 : Int32) else (0 : Int32)) else (0 : Int32)))) σ)) : q_At G X_Tk_isSign (d + 1) 0 0 0 [some (.ref 3), some (.int p0)] [] σ Q := by
  refine q_aload_n o_Tk_isSign_0 rfl ?_
  refine q2_getI hs o_Tk_isSign_1 f_Tk_46 rfl ?_
  refine q_iconst (v := 3) o_Tk_isSign_4 (by decide) ?_
  have hJ : ∀ vJ : Int32, vJ = (if (q_I σ 3 1) = 3 then (if (q_I σ 3 7) = p0 then (1 : Int32) else (0 : Int32)) else (0 : Int32)) → q_At G X_Tk_isSign (d + 1) 0 0 21 [some (.ref 3), some (.int p0)] [.int vJ] σ Q := by
    intro vJ eJ
    rw [eJ]
    clear eJ vJ
    exact q_zre o_Tk_isSign_21 rfl h.1 h.2
  refine q_icmp_ne o_Tk_isSign_5 (fun c1 => ?_) (fun c1 => ?_)
  · refine q_iconst (v := 0) o_Tk_isSign_20 (by decide) ?_
    exact hJ _ (Eq.symm (if_neg c1))
  · refine q_aload_n o_Tk_isSign_8 rfl ?_
    refine q2_getI hs o_Tk_isSign_9 f_Tk_73 rfl ?_
    refine q_iload_n o_Tk_isSign_12 rfl ?_
    refine q_icmp_ne o_Tk_isSign_13 (fun c2 => ?_) (fun c2 => ?_)
    · refine q_iconst (v := 0) o_Tk_isSign_20 (by decide) ?_
      exact hJ _ (Eq.symm ((if_pos c1).trans (if_neg c2)))
    · refine q_iconst (v := 1) o_Tk_isSign_16 (by decide) ?_
      refine q_goto o_Tk_isSign_17 ?_
      exact hJ _ (Eq.symm ((if_pos c1).trans (if_pos c2)))

set_option maxRecDepth 20000 in
theorem v_Tk_takeWord_0 {G : q_G} {d : Nat} {σ : q_S} {Q : Option Value → q_S → Prop} {p0 : Nat} (hp0 : p0 < 34) (hs : q_Sh σ) (h : q_Call G d 0 0 X_Tk_isWord [.ref 3, .ref (1001 + p0)] σ (q_ri (fun x4 σ2 => ((¬ x4 = 0 → q_Call G d 0 0 X_Tk_advance [.ref 3] σ2 (q_rv (fun σ8 => Q (some (.int 1)) σ8))) ∧ (x4 = 0 → q_Call G d 0 0 X_Tk_refuse [.ref 3, .int 1] σ2 (q_ri (fun x14 σ12 => (narrow .boolean (.int x14) = .int x14 ∧ Q (some (.int x14)) σ12)))))))) : q_At G X_Tk_takeWord (d + 1) 0 0 0 [some (.ref 3), some (.ref (1001 + p0))] [] σ Q := by
  refine q_aload_n o_Tk_takeWord_0 rfl ?_
  refine q_aload_n o_Tk_takeWord_1 rfl ?_
  refine q2_callVi _ (a := 3) (As := [.ref (1001 + p0)]) (st := []) hs o_Tk_takeWord_2 k_Tk_89 rfl rfl (Nat.le_of_ble_eq_true rfl) h (fun x4 σ2 hs3 h1 => ?_)
  refine q_if_ne o_Tk_takeWord_5 (fun c5 => ?_) (fun c5 => ?_)
  · have h6 := h1.1 c5
    refine q_aload_n o_Tk_takeWord_14 rfl ?_
    refine q2_callVv _ (a := 3) (As := []) (st := []) hs3 o_Tk_takeWord_15 k_Tk_31 rfl rfl (Nat.le_of_ble_eq_true rfl) h6 (fun σ8 hs9 h7 => ?_)
    refine q_iconst (v := 1) o_Tk_takeWord_18 (by decide) ?_
    exact q_zre o_Tk_takeWord_19 rfl rfl h7
  · have h10 := h1.2 c5
    refine q_aload_n o_Tk_takeWord_8 rfl ?_
    refine q_iconst (v := 1) o_Tk_takeWord_9 (by decide) ?_
    refine q2_callVi _ (a := 3) (As := [.int 1]) (st := []) hs3 o_Tk_takeWord_10 k_Tk_93 rfl rfl (Nat.le_of_ble_eq_true rfl) h10 (fun x14 σ12 hs13 h11 => ?_)
    exact q_zre o_Tk_takeWord_13 rfl h11.1 h11.2

set_option maxRecDepth 20000 in
theorem v_Tk_takeSign_0 {G : q_G} {d : Nat} {σ : q_S} {Q : Option Value → q_S → Prop} {p0 : Int32}  (hs : q_Sh σ) (h : q_Call G d 0 0 X_Tk_isSign [.ref 3, .int p0] σ (q_ri (fun x4 σ2 => ((¬ x4 = 0 → q_Call G d 0 0 X_Tk_advance [.ref 3] σ2 (q_rv (fun σ8 => Q (some (.int 1)) σ8))) ∧ (x4 = 0 → q_Call G d 0 0 X_Tk_refuse [.ref 3, .int 1] σ2 (q_ri (fun x14 σ12 => (narrow .boolean (.int x14) = .int x14 ∧ Q (some (.int x14)) σ12)))))))) : q_At G X_Tk_takeSign (d + 1) 0 0 0 [some (.ref 3), some (.int p0)] [] σ Q := by
  refine q_aload_n o_Tk_takeSign_0 rfl ?_
  refine q_iload_n o_Tk_takeSign_1 rfl ?_
  refine q2_callVi _ (a := 3) (As := [.int p0]) (st := []) hs o_Tk_takeSign_2 k_Tk_97 rfl rfl (Nat.le_of_ble_eq_true rfl) h (fun x4 σ2 hs3 h1 => ?_)
  refine q_if_ne o_Tk_takeSign_5 (fun c5 => ?_) (fun c5 => ?_)
  · have h6 := h1.1 c5
    refine q_aload_n o_Tk_takeSign_14 rfl ?_
    refine q2_callVv _ (a := 3) (As := []) (st := []) hs3 o_Tk_takeSign_15 k_Tk_31 rfl rfl (Nat.le_of_ble_eq_true rfl) h6 (fun σ8 hs9 h7 => ?_)
    refine q_iconst (v := 1) o_Tk_takeSign_18 (by decide) ?_
    exact q_zre o_Tk_takeSign_19 rfl rfl h7
  · have h10 := h1.2 c5
    refine q_aload_n o_Tk_takeSign_8 rfl ?_
    refine q_iconst (v := 1) o_Tk_takeSign_9 (by decide) ?_
    refine q2_callVi _ (a := 3) (As := [.int 1]) (st := []) hs3 o_Tk_takeSign_10 k_Tk_93 rfl rfl (Nat.le_of_ble_eq_true rfl) h10 (fun x14 σ12 hs13 h11 => ?_)
    exact q_zre o_Tk_takeSign_13 rfl h11.1 h11.2

set_option maxRecDepth 20000 in
theorem v_Tk_takeNumber_0 {G : q_G} {d : Nat} {σ : q_S} {Q : Option Value → q_S → Prop} {p0 : Int32} {p1 : Int32}  (hs : q_Sh σ) (h : (((q_I σ 3 1) = 2 → (((q_I σ 3 6) < p0 → q_Call G d 0 0 X_Tk_refuse [.ref 3, .int 4] σ (q_ri (fun x8 σ6 => (narrow .boolean (.int x8) = .int x8 ∧ Q (some (.int x8)) σ6)))) ∧ (¬ (q_I σ 3 6) < p0 → (((q_I σ 3 6) ≤ p1 → q_Call G d 0 0 X_Tk_advance [.ref 3] (q_setI σ 3 8 (q_I σ 3 6)) (q_rv (fun σ13 => Q (some (.int 1)) σ13))) ∧ (¬ (q_I σ 3 6) ≤ p1 → q_Call G d 0 0 X_Tk_refuse [.ref 3, .int 4] σ (q_ri (fun x19 σ17 => (narrow .boolean (.int x19) = .int x19 ∧ Q (some (.int x19)) σ17)))))))) ∧ (¬ (q_I σ 3 1) = 2 → q_Call G d 0 0 X_Tk_refuse [.ref 3, .int 1] σ (q_ri (fun x24 σ22 => (narrow .boolean (.int x24) = .int x24 ∧ Q (some (.int x24)) σ22)))))) : q_At G X_Tk_takeNumber (d + 1) 0 0 0 [some (.ref 3), some (.int p0), some (.int p1)] [] σ Q := by
  refine q_aload_n o_Tk_takeNumber_0 rfl ?_
  refine q2_getI hs o_Tk_takeNumber_1 f_Tk_46 rfl ?_
  refine q_iconst (v := 2) o_Tk_takeNumber_4 (by decide) ?_
  refine q_icmp_eq o_Tk_takeNumber_5 (fun c1 => ?_) (fun c1 => ?_)
  · have h2 := h.1 c1
    refine q_aload_n o_Tk_takeNumber_14 rfl ?_
    refine q2_getI hs o_Tk_takeNumber_15 f_Tk_70 rfl ?_
    refine q_iload_n o_Tk_takeNumber_18 rfl ?_
    refine q_icmp_lt o_Tk_takeNumber_19 (fun c3 => ?_) (fun c3 => ?_)
    · have h4 := h2.1 c3
      refine q_aload_n o_Tk_takeNumber_30 rfl ?_
      refine q_iconst (v := 4) o_Tk_takeNumber_31 (by decide) ?_
      refine q2_callVi _ (a := 3) (As := [.int 4]) (st := []) hs o_Tk_takeNumber_32 k_Tk_93 rfl rfl (Nat.le_of_ble_eq_true rfl) h4 (fun x8 σ6 hs7 h5 => ?_)
      exact q_zre o_Tk_takeNumber_35 rfl h5.1 h5.2
    · have h9 := h2.2 c3
      refine q_aload_n o_Tk_takeNumber_22 rfl ?_
      refine q2_getI hs o_Tk_takeNumber_23 f_Tk_70 rfl ?_
      refine q_iload_n o_Tk_takeNumber_26 rfl ?_
      refine q_icmp_le o_Tk_takeNumber_27 (fun c10 => ?_) (fun c10 => ?_)
      · have h11 := h9.1 c10
        refine q_aload_n o_Tk_takeNumber_36 rfl ?_
        refine q_aload_n o_Tk_takeNumber_37 rfl ?_
        refine q2_getI hs o_Tk_takeNumber_38 f_Tk_70 rfl ?_
        refine q2_putI hs o_Tk_takeNumber_41 fp_Tk_101 rfl rfl rfl ?_
        refine q_aload_n o_Tk_takeNumber_44 rfl ?_
        refine q2_callVv _ (a := 3) (As := []) (st := []) hs o_Tk_takeNumber_45 k_Tk_31 rfl rfl (Nat.le_of_ble_eq_true rfl) h11 (fun σ13 hs14 h12 => ?_)
        refine q_iconst (v := 1) o_Tk_takeNumber_48 (by decide) ?_
        exact q_zre o_Tk_takeNumber_49 rfl rfl h12
      · have h15 := h9.2 c10
        refine q_aload_n o_Tk_takeNumber_30 rfl ?_
        refine q_iconst (v := 4) o_Tk_takeNumber_31 (by decide) ?_
        refine q2_callVi _ (a := 3) (As := [.int 4]) (st := []) hs o_Tk_takeNumber_32 k_Tk_93 rfl rfl (Nat.le_of_ble_eq_true rfl) h15 (fun x19 σ17 hs18 h16 => ?_)
        exact q_zre o_Tk_takeNumber_35 rfl h16.1 h16.2
  · have h20 := h.2 c1
    refine q_aload_n o_Tk_takeNumber_8 rfl ?_
    refine q_iconst (v := 1) o_Tk_takeNumber_9 (by decide) ?_
    refine q2_callVi _ (a := 3) (As := [.int 1]) (st := []) hs o_Tk_takeNumber_10 k_Tk_93 rfl rfl (Nat.le_of_ble_eq_true rfl) h20 (fun x24 σ22 hs23 h21 => ?_)
    exact q_zre o_Tk_takeNumber_13 rfl h21.1 h21.2

set_option maxRecDepth 20000 in
theorem v_Tk_kindHere_0 {G : q_G} {d : Nat} {σ : q_S} {Q : Option Value → q_S → Prop}   (hs : q_Sh σ) (h : (((q_I σ 3 1) = 1 → (∃ k4, q_R σ 3 4 = some (1001 + k4) ∧ k4 < 34 ∧ (∃ k6, (nI k4) = nI k6 ∧ k6 < 34 ∧ ((((q_smap.getD k6 0).toInt < 1 ∨ 4 < (q_smap.getD k6 0).toInt) → Q (some (.int (-1))) σ) ∧ (((q_smap.getD k6 0).toInt = 1 → Q (some (.int 0)) σ) ∧ ((q_smap.getD k6 0).toInt = 2 → Q (some (.int 1)) σ) ∧ ((q_smap.getD k6 0).toInt = 3 → Q (some (.int 2)) σ) ∧ ((q_smap.getD k6 0).toInt = 4 → Q (some (.int 3)) σ)))))) ∧ (¬ (q_I σ 3 1) = 1 → Q (some (.int (-1))) σ))) : q_At G X_Tk_kindHere (d + 1) 0 0 0 [some (.ref 3)] [] σ Q := by
  refine q_aload_n o_Tk_kindHere_0 rfl ?_
  refine q2_getI hs o_Tk_kindHere_1 f_Tk_46 rfl ?_
  refine q_iconst (v := 1) o_Tk_kindHere_4 (by decide) ?_
  refine q_icmp_eq o_Tk_kindHere_5 (fun c1 => ?_) (fun c1 => ?_)
  · have h2 := h.1 c1
    refine q_gets (w := .ref 1042) o_Tk_kindHere_10 s_Tk_104 (fun U H hh => hh.2.2.2.2.1.1) ?_
    refine q_aload_n o_Tk_kindHere_13 rfl ?_
    obtain ⟨k4, eh3, bh3, h3⟩ := h2
    refine q2_getR hs o_Tk_kindHere_14 f_Tk_15 rfl eh3 ?_
    refine q2_ord hs o_Tk_kindHere_17 k_Tk_110 bh3 (Nat.le_of_ble_eq_true rfl) ?_
    obtain ⟨k6, eh5, bh5, h5⟩ := h3
    refine q_ti (w := .int (q_smap.getD k6 0)) o_Tk_kindHere_20 (fun U H hh => hh.2.2.2.2.1.2) eh5 bh5 (by decide) rfl ?_
    rcases q_sw 1 4 (q_smap.getD k6 0) with c0 | ⟨kk, c1, c2, c3⟩
    · have h7 := h5.1 c0
      refine q_tabOut (tgt := 60) o_Tk_kindHere_21 c0 (by decide) ?_
      refine q_iconst (v := (-1)) o_Tk_kindHere_60 (by decide) ?_
      exact q_ire o_Tk_kindHere_61 rfl h7
    · have h8 := h5.2
      have hx : (q_smap.getD k6 0).toInt = 1 + (kk : Int) := c3
      have hkk : kk = 0 ∨ kk = 1 ∨ kk = 2 ∨ kk = 3 := by omega
      rcases hkk with rfl | rfl | rfl | rfl
      · have h9 := h8.1 (by simpa using hx)
        refine q_tabIn (tgt := 52) (off := 31) o_Tk_kindHere_21 c1 c2 (by rw [show (q_smap.getD k6 0).toInt = 1 by simpa using hx]; rfl) (by decide) ?_
        refine q_iconst (v := 0) o_Tk_kindHere_52 (by decide) ?_
        exact q_ire o_Tk_kindHere_53 rfl h9
      · have h10 := h8.2.1 (by simpa using hx)
        refine q_tabIn (tgt := 54) (off := 33) o_Tk_kindHere_21 c1 c2 (by rw [show (q_smap.getD k6 0).toInt = 2 by simpa using hx]; rfl) (by decide) ?_
        refine q_iconst (v := 1) o_Tk_kindHere_54 (by decide) ?_
        exact q_ire o_Tk_kindHere_55 rfl h10
      · have h11 := h8.2.2.1 (by simpa using hx)
        refine q_tabIn (tgt := 56) (off := 35) o_Tk_kindHere_21 c1 c2 (by rw [show (q_smap.getD k6 0).toInt = 3 by simpa using hx]; rfl) (by decide) ?_
        refine q_iconst (v := 2) o_Tk_kindHere_56 (by decide) ?_
        exact q_ire o_Tk_kindHere_57 rfl h11
      · have h12 := h8.2.2.2 (by simpa using hx)
        refine q_tabIn (tgt := 58) (off := 37) o_Tk_kindHere_21 c1 c2 (by rw [show (q_smap.getD k6 0).toInt = 4 by simpa using hx]; rfl) (by decide) ?_
        refine q_iconst (v := 3) o_Tk_kindHere_58 (by decide) ?_
        exact q_ire o_Tk_kindHere_59 rfl h12
  · have h13 := h.2 c1
    refine q_iconst (v := (-1)) o_Tk_kindHere_8 (by decide) ?_
    exact q_ire o_Tk_kindHere_9 rfl h13
