set_option maxRecDepth 20000 in
theorem v_M_thrown_0 {G : q_G} {d : Nat} {σ : q_S} {Q : Option Value → q_S → Prop}   (hs : q_Sh σ) (h : Q (some (.int (q_I σ 159 0))) σ) : q_At G X_M_thrown d 0 0 0 [some (.ref 159)] [] σ Q := by
  refine q_aload_n o_M_thrown_0 rfl ?_
  refine q2_getI hs o_M_thrown_1 f_M_1 rfl ?_
  exact q_ire o_M_thrown_4 rfl h

set_option maxRecDepth 20000 in
theorem v_M_feed_0 {G : q_G} {d : Nat} {σ : q_S} {Q : Option Value → q_S → Prop} {p0 : Int64} {p1 : Int64} {p2 : Int64}  (hs : q_Sh σ) (h : q_Call G d 0 0 X_M_lay [.ref 159, .long p0] (q_setI σ 159 0 0) (q_rv (fun σ2 => q_Call G d 0 0 X_M_lay [.ref 159, .long p1] σ2 (q_rv (fun σ5 => q_Call G d 0 0 X_M_lay [.ref 159, .long p2] σ5 (q_rv (fun σ8 => Q (some (.int (q_I σ8 159 2))) σ8))))))) : q_At G X_M_feed (d + 1) 0 0 0 [some (.ref 159), some (.long p0), none, some (.long p1), none, some (.long p2), none] [] σ Q := by
  refine q_aload_n o_M_feed_0 rfl ?_
  refine q_iconst (v := 0) o_M_feed_1 (by decide) ?_
  refine q2_putI hs o_M_feed_2 fp_M_1 rfl rfl rfl ?_
  refine q_aload_n o_M_feed_5 rfl ?_
  refine q_lload_n o_M_feed_6 rfl ?_
  refine q2_callVv _ (a := 159) (As := [.long p0]) (st := []) hs o_M_feed_7 k_M_7 rfl rfl (Nat.le_of_ble_eq_true rfl) h (fun σ2 hs3 h1 => ?_)
  refine q_aload_n o_M_feed_10 rfl ?_
  refine q_lload_n o_M_feed_11 rfl ?_
  refine q2_callVv _ (a := 159) (As := [.long p1]) (st := []) hs3 o_M_feed_12 k_M_7 rfl rfl (Nat.le_of_ble_eq_true rfl) h1 (fun σ5 hs6 h4 => ?_)
  refine q_aload_n o_M_feed_15 rfl ?_
  refine q_lload o_M_feed_16 rfl ?_
  refine q2_callVv _ (a := 159) (As := [.long p2]) (st := []) hs6 o_M_feed_18 k_M_7 rfl rfl (Nat.le_of_ble_eq_true rfl) h4 (fun σ8 hs9 h7 => ?_)
  refine q_aload_n o_M_feed_21 rfl ?_
  refine q2_getI hs9 o_M_feed_22 f_M_11 rfl ?_
  exact q_ire o_M_feed_25 rfl h7

set_option maxRecDepth 20000 in
theorem v_M_lay_0 {G : q_G} {d : Nat} {σ : q_S} {Q : Option Value → q_S → Prop} {p0 : Int64}  (hs : q_Sh σ) (h : q_At G X_M_lay d 0 0 3 [some (.ref 159), some (.long p0), none, some (.int 56), none] [] σ Q) : q_At G X_M_lay d 0 0 0 [some (.ref 159), some (.long p0), none, none, none] [] σ Q := by
  refine q_bipush (v := 56) o_M_lay_0 (by decide) ?_
  refine q2_istn (ls' := [some (.ref 159), some (.long p0), none, some (.int 56), none]) o_M_lay_2 (Nat.le_of_ble_eq_true rfl) rfl ?_
  exact h

set_option maxRecDepth 20000 in
theorem v_M_lay_3 {G : q_G} {d : Nat} {σ : q_S} {Q : Option Value → q_S → Prop} {p0 : Int64} {l3 : Int32}  (hs : q_Sh σ) (h : ((l3 < 0 → Q none σ) ∧ (¬ l3 < 0 → ((((p0 >>> (l3.toInt64 &&& 63)).toInt32 &&& 255) = 10 → ((1000 ≤ (q_I σ 159 2) → q_At G X_M_lay d 0 0 3 [some (.ref 159), some (.long p0), none, some (.int (l3 + (-8))), none] [] σ Q) ∧ (¬ 1000 ≤ (q_I σ 159 2) → (∃ k10, (q_I σ 159 2) = nI k10 ∧ k10 < 1000 ∧ q_At G X_M_lay d 0 0 3 [some (.ref 159), some (.long p0), none, some (.int (l3 + (-8))), none] [] (q_setI (q_setI σ 160 k10 ((p0 >>> (l3.toInt64 &&& 63)).toInt32 &&& 255)) 159 2 ((q_I (q_setI σ 160 k10 ((p0 >>> (l3.toInt64 &&& 63)).toInt32 &&& 255)) 159 2) + 1)) Q)))) ∧ (¬ ((p0 >>> (l3.toInt64 &&& 63)).toInt32 &&& 255) = 10 → ((((p0 >>> (l3.toInt64 &&& 63)).toInt32 &&& 255) < 32 → q_At G X_M_lay d 0 0 3 [some (.ref 159), some (.long p0), none, some (.int (l3 + (-8))), none] [] σ Q) ∧ (¬ ((p0 >>> (l3.toInt64 &&& 63)).toInt32 &&& 255) < 32 → ((126 < ((p0 >>> (l3.toInt64 &&& 63)).toInt32 &&& 255) → q_At G X_M_lay d 0 0 3 [some (.ref 159), some (.long p0), none, some (.int (l3 + (-8))), none] [] σ Q) ∧ (¬ 126 < ((p0 >>> (l3.toInt64 &&& 63)).toInt32 &&& 255) → ((1000 ≤ (q_I σ 159 2) → q_At G X_M_lay d 0 0 3 [some (.ref 159), some (.long p0), none, some (.int (l3 + (-8))), none] [] σ Q) ∧ (¬ 1000 ≤ (q_I σ 159 2) → (∃ k22, (q_I σ 159 2) = nI k22 ∧ k22 < 1000 ∧ q_At G X_M_lay d 0 0 3 [some (.ref 159), some (.long p0), none, some (.int (l3 + (-8))), none] [] (q_setI (q_setI σ 160 k22 ((p0 >>> (l3.toInt64 &&& 63)).toInt32 &&& 255)) 159 2 ((q_I (q_setI σ 160 k22 ((p0 >>> (l3.toInt64 &&& 63)).toInt32 &&& 255)) 159 2) + 1)) Q)))))))))))) : q_At G X_M_lay d 0 0 3 [some (.ref 159), some (.long p0), none, some (.int l3), none] [] σ Q := by
  refine q_iload_n o_M_lay_3 rfl ?_
  refine q_if_lt o_M_lay_4 (fun c1 => ?_) (fun c1 => ?_)
  · have h2 := h.1 c1
    exact q_vre o_M_lay_75 rfl h2
  · have h3 := h.2 c1
    refine q_lload_n o_M_lay_7 rfl ?_
    refine q_iload_n o_M_lay_8 rfl ?_
    refine q_lshr o_M_lay_9 ?_
    refine q_l2i o_M_lay_10 ?_
    refine q_sipush (v := 255) o_M_lay_11 (by decide) ?_
    refine q_iand o_M_lay_14 ?_
    refine q2_ist (ls' := [some (.ref 159), some (.long p0), none, some (.int l3), some (.int ((p0 >>> (l3.toInt64 &&& 63)).toInt32 &&& 255))]) o_M_lay_15 (Nat.le_of_ble_eq_true rfl) rfl ?_
    refine q_iload o_M_lay_17 rfl ?_
    refine q_bipush (v := 10) o_M_lay_19 (by decide) ?_
    refine q_icmp_eq o_M_lay_21 (fun c4 => ?_) (fun c4 => ?_)
    · have h5 := h3.1 c4
      refine q_aload_n o_M_lay_38 rfl ?_
      refine q2_getI hs o_M_lay_39 f_M_11 rfl ?_
      refine q_sipush (v := 1000) o_M_lay_42 (by decide) ?_
      refine q_icmp_ge o_M_lay_45 (fun c6 => ?_) (fun c6 => ?_)
      · have h7 := h5.1 c6
        refine q2_inc (v := (l3 + (-8))) (ls' := [some (.ref 159), some (.long p0), none, some (.int (l3 + (-8))), some (.int ((p0 >>> (l3.toInt64 &&& 63)).toInt32 &&& 255))]) o_M_lay_69 rfl rfl (Nat.le_of_ble_eq_true rfl) rfl ?_
        refine q_goto o_M_lay_72 ?_
        exact q_weak (ls' := [some (.ref 159), some (.long p0), none, some (.int (l3 + (-8))), none]) (And.intro rfl (And.intro rfl (And.intro rfl trivial))) h7
      · have h8 := h5.2 c6
        refine q_aload_n o_M_lay_48 rfl ?_
        refine q2_getR hs o_M_lay_49 f_M_14 rfl (fz_159_1 hs) ?_
        refine q_aload_n o_M_lay_52 rfl ?_
        refine q2_getI hs o_M_lay_53 f_M_11 rfl ?_
        refine q_iload o_M_lay_56 rfl ?_
        obtain ⟨k10, eh9, bh9, h9⟩ := h8
        refine q2_iast hs o_M_lay_58 rfl eh9 bh9 (by decide) ?_
        refine q_aload_n o_M_lay_59 rfl ?_
        refine q_dup o_M_lay_60 rfl ?_
        refine q2_getI hs o_M_lay_61 f_M_11 rfl ?_
        refine q_iconst (v := 1) o_M_lay_64 (by decide) ?_
        refine q_iadd o_M_lay_65 ?_
        refine q2_putI hs o_M_lay_66 fp_M_11 rfl rfl rfl ?_
        refine q2_inc (v := (l3 + (-8))) (ls' := [some (.ref 159), some (.long p0), none, some (.int (l3 + (-8))), some (.int ((p0 >>> (l3.toInt64 &&& 63)).toInt32 &&& 255))]) o_M_lay_69 rfl rfl (Nat.le_of_ble_eq_true rfl) rfl ?_
        refine q_goto o_M_lay_72 ?_
        exact q_weak (ls' := [some (.ref 159), some (.long p0), none, some (.int (l3 + (-8))), none]) (And.intro rfl (And.intro rfl (And.intro rfl trivial))) h9
    · have h11 := h3.2 c4
      refine q_iload o_M_lay_24 rfl ?_
      refine q_bipush (v := 32) o_M_lay_26 (by decide) ?_
      refine q_icmp_lt o_M_lay_28 (fun c12 => ?_) (fun c12 => ?_)
      · have h13 := h11.1 c12
        refine q2_inc (v := (l3 + (-8))) (ls' := [some (.ref 159), some (.long p0), none, some (.int (l3 + (-8))), some (.int ((p0 >>> (l3.toInt64 &&& 63)).toInt32 &&& 255))]) o_M_lay_69 rfl rfl (Nat.le_of_ble_eq_true rfl) rfl ?_
        refine q_goto o_M_lay_72 ?_
        exact q_weak (ls' := [some (.ref 159), some (.long p0), none, some (.int (l3 + (-8))), none]) (And.intro rfl (And.intro rfl (And.intro rfl trivial))) h13
      · have h14 := h11.2 c12
        refine q_iload o_M_lay_31 rfl ?_
        refine q_bipush (v := 126) o_M_lay_33 (by decide) ?_
        refine q_icmp_gt o_M_lay_35 (fun c15 => ?_) (fun c15 => ?_)
        · have h16 := h14.1 c15
          refine q2_inc (v := (l3 + (-8))) (ls' := [some (.ref 159), some (.long p0), none, some (.int (l3 + (-8))), some (.int ((p0 >>> (l3.toInt64 &&& 63)).toInt32 &&& 255))]) o_M_lay_69 rfl rfl (Nat.le_of_ble_eq_true rfl) rfl ?_
          refine q_goto o_M_lay_72 ?_
          exact q_weak (ls' := [some (.ref 159), some (.long p0), none, some (.int (l3 + (-8))), none]) (And.intro rfl (And.intro rfl (And.intro rfl trivial))) h16
        · have h17 := h14.2 c15
          refine q_aload_n o_M_lay_38 rfl ?_
          refine q2_getI hs o_M_lay_39 f_M_11 rfl ?_
          refine q_sipush (v := 1000) o_M_lay_42 (by decide) ?_
          refine q_icmp_ge o_M_lay_45 (fun c18 => ?_) (fun c18 => ?_)
          · have h19 := h17.1 c18
            refine q2_inc (v := (l3 + (-8))) (ls' := [some (.ref 159), some (.long p0), none, some (.int (l3 + (-8))), some (.int ((p0 >>> (l3.toInt64 &&& 63)).toInt32 &&& 255))]) o_M_lay_69 rfl rfl (Nat.le_of_ble_eq_true rfl) rfl ?_
            refine q_goto o_M_lay_72 ?_
            exact q_weak (ls' := [some (.ref 159), some (.long p0), none, some (.int (l3 + (-8))), none]) (And.intro rfl (And.intro rfl (And.intro rfl trivial))) h19
          · have h20 := h17.2 c18
            refine q_aload_n o_M_lay_48 rfl ?_
            refine q2_getR hs o_M_lay_49 f_M_14 rfl (fz_159_1 hs) ?_
            refine q_aload_n o_M_lay_52 rfl ?_
            refine q2_getI hs o_M_lay_53 f_M_11 rfl ?_
            refine q_iload o_M_lay_56 rfl ?_
            obtain ⟨k22, eh21, bh21, h21⟩ := h20
            refine q2_iast hs o_M_lay_58 rfl eh21 bh21 (by decide) ?_
            refine q_aload_n o_M_lay_59 rfl ?_
            refine q_dup o_M_lay_60 rfl ?_
            refine q2_getI hs o_M_lay_61 f_M_11 rfl ?_
            refine q_iconst (v := 1) o_M_lay_64 (by decide) ?_
            refine q_iadd o_M_lay_65 ?_
            refine q2_putI hs o_M_lay_66 fp_M_11 rfl rfl rfl ?_
            refine q2_inc (v := (l3 + (-8))) (ls' := [some (.ref 159), some (.long p0), none, some (.int (l3 + (-8))), some (.int ((p0 >>> (l3.toInt64 &&& 63)).toInt32 &&& 255))]) o_M_lay_69 rfl rfl (Nat.le_of_ble_eq_true rfl) rfl ?_
            refine q_goto o_M_lay_72 ?_
            exact q_weak (ls' := [some (.ref 159), some (.long p0), none, some (.int (l3 + (-8))), none]) (And.intro rfl (And.intro rfl (And.intro rfl trivial))) h21

set_option maxRecDepth 20000 in
theorem v_M_isLetter_0 {G : q_G} {d : Nat} {σ : q_S} {Q : Option Value → q_S → Prop} {p0 : Int32}  (hs : q_Sh σ) (h : (narrow .boolean (.int (if p0 < 97 then (0 : Int32) else (if 122 < p0 then (0 : Int32) else (1 : Int32)))) = .int (if p0 < 97 then (0 : Int32) else (if 122 < p0 then (0 : Int32) else (1 : Int32))) ∧ Q (some (.int (if p0 < 97 then (0 : Int32) else (if 122 < p0 then (0 : Int32) else (1 : Int32))))) σ)) : q_At G X_M_isLetter d 0 0 0 [some (.int p0)] [] σ Q := by
  refine q_iload_n o_M_isLetter_0 rfl ?_
  refine q_bipush (v := 97) o_M_isLetter_1 (by decide) ?_
  have hJ : ∀ vJ : Int32, vJ = (if p0 < 97 then (0 : Int32) else (if 122 < p0 then (0 : Int32) else (1 : Int32))) → q_At G X_M_isLetter d 0 0 17 [some (.int p0)] [.int vJ] σ Q := by
    intro vJ eJ
    rw [eJ]
    clear eJ vJ
    exact q_zre o_M_isLetter_17 rfl h.1 h.2
  refine q_icmp_lt o_M_isLetter_3 (fun c1 => ?_) (fun c1 => ?_)
  · refine q_iconst (v := 0) o_M_isLetter_16 (by decide) ?_
    exact hJ _ (Eq.symm (if_pos c1))
  · refine q_iload_n o_M_isLetter_6 rfl ?_
    refine q_bipush (v := 122) o_M_isLetter_7 (by decide) ?_
    refine q_icmp_gt o_M_isLetter_9 (fun c2 => ?_) (fun c2 => ?_)
    · refine q_iconst (v := 0) o_M_isLetter_16 (by decide) ?_
      exact hJ _ (Eq.symm ((if_neg c1).trans (if_pos c2)))
    · refine q_iconst (v := 1) o_M_isLetter_12 (by decide) ?_
      refine q_goto o_M_isLetter_13 ?_
      exact hJ _ (Eq.symm ((if_neg c1).trans (if_neg c2)))

set_option maxRecDepth 20000 in
theorem v_M_isDigit_0 {G : q_G} {d : Nat} {σ : q_S} {Q : Option Value → q_S → Prop} {p0 : Int32}  (hs : q_Sh σ) (h : (narrow .boolean (.int (if p0 < 48 then (0 : Int32) else (if 57 < p0 then (0 : Int32) else (1 : Int32)))) = .int (if p0 < 48 then (0 : Int32) else (if 57 < p0 then (0 : Int32) else (1 : Int32))) ∧ Q (some (.int (if p0 < 48 then (0 : Int32) else (if 57 < p0 then (0 : Int32) else (1 : Int32))))) σ)) : q_At G X_M_isDigit d 0 0 0 [some (.int p0)] [] σ Q := by
  refine q_iload_n o_M_isDigit_0 rfl ?_
  refine q_bipush (v := 48) o_M_isDigit_1 (by decide) ?_
  have hJ : ∀ vJ : Int32, vJ = (if p0 < 48 then (0 : Int32) else (if 57 < p0 then (0 : Int32) else (1 : Int32))) → q_At G X_M_isDigit d 0 0 17 [some (.int p0)] [.int vJ] σ Q := by
    intro vJ eJ
    rw [eJ]
    clear eJ vJ
    exact q_zre o_M_isDigit_17 rfl h.1 h.2
  refine q_icmp_lt o_M_isDigit_3 (fun c1 => ?_) (fun c1 => ?_)
  · refine q_iconst (v := 0) o_M_isDigit_16 (by decide) ?_
    exact hJ _ (Eq.symm (if_pos c1))
  · refine q_iload_n o_M_isDigit_6 rfl ?_
    refine q_bipush (v := 57) o_M_isDigit_7 (by decide) ?_
    refine q_icmp_gt o_M_isDigit_9 (fun c2 => ?_) (fun c2 => ?_)
    · refine q_iconst (v := 0) o_M_isDigit_16 (by decide) ?_
      exact hJ _ (Eq.symm ((if_neg c1).trans (if_pos c2)))
    · refine q_iconst (v := 1) o_M_isDigit_12 (by decide) ?_
      refine q_goto o_M_isDigit_13 ?_
      exact hJ _ (Eq.symm ((if_neg c1).trans (if_neg c2)))

set_option maxRecDepth 20000 in
theorem v_M_rank_0 {G : q_G} {d : Nat} {σ : q_S} {Q : Option Value → q_S → Prop} {p0 : Int32}  (hs : q_Sh σ) (h : q_Call G d 0 0 X_M_isLetter [.int p0] σ (q_ri (fun x4 σ2 => Q (some (.int (if x4 = 0 then (p0 - 21) else (p0 - 96)))) σ2))) : q_At G X_M_rank (d + 1) 0 0 0 [some (.int p0)] [] σ Q := by
  refine q_iload_n o_M_rank_0 rfl ?_
  refine q2_callSi _ (As := [.int p0]) (st := []) hs o_M_rank_1 k_M_162 rfl (Nat.le_of_ble_eq_true rfl) h (fun x4 σ2 hs3 h1 => ?_)
  have hJ : ∀ vJ : Int32, vJ = (if x4 = 0 then (p0 - 21) else (p0 - 96)) → q_At G X_M_rank (d + 1) 0 0 18 [some (.int p0)] [.int vJ] σ2 Q := by
    intro vJ eJ
    rw [eJ]
    clear eJ vJ
    exact q_ire o_M_rank_18 rfl h1
  refine q_if_eq o_M_rank_4 (fun c5 => ?_) (fun c5 => ?_)
  · refine q_iload_n o_M_rank_14 rfl ?_
    refine q_bipush (v := 21) o_M_rank_15 (by decide) ?_
    refine q_isub o_M_rank_17 ?_
    exact hJ _ (Eq.symm (if_pos c5))
  · refine q_iload_n o_M_rank_7 rfl ?_
    refine q_bipush (v := 96) o_M_rank_8 (by decide) ?_
    refine q_isub o_M_rank_10 ?_
    refine q_goto o_M_rank_11 ?_
    exact hJ _ (Eq.symm (if_neg c5))

set_option maxRecDepth 20000 in
theorem v_M_isSignOf_0 {G : q_G} {d : Nat} {σ : q_S} {Q : Option Value → q_S → Prop} {p0 : Int32}  (hs : q_Sh σ) (h : (narrow .boolean (.int (if p0 = 40 then (1 : Int32) else (if p0 = 41 then (1 : Int32) else (if p0 = 59 then (1 : Int32) else (if p0 = 61 then (1 : Int32) else (if p0 = 60 then (1 : Int32) else (if p0 = 43 then (1 : Int32) else (if p0 = 45 then (1 : Int32) else (if p0 = 42 then (1 : Int32) else (0 : Int32)))))))))) = .int (if p0 = 40 then (1 : Int32) else (if p0 = 41 then (1 : Int32) else (if p0 = 59 then (1 : Int32) else (if p0 = 61 then (1 : Int32) else (if p0 = 60 then (1 : Int32) else (if p0 = 43 then (1 : Int32) else (if p0 = 45 then (1 : Int32) else (if p0 = 42 then (1 : Int32) else (0 : Int32))))))))) ∧ Q (some (.int (if p0 = 40 then (1 : Int32) else (if p0 = 41 then (1 : Int32) else (if p0 = 59 then (1 : Int32) else (if p0 = 61 then (1 : Int32) else (if p0 = 60 then (1 : Int32) else (if p0 = 43 then (1 : Int32) else (if p0 = 45 then (1 : Int32) else (if p0 = 42 then (1 : Int32) else (0 : Int32))))))))))) σ)) : q_At G X_M_isSignOf d 0 0 0 [some (.int p0)] [] σ Q := by
  refine q_iload_n o_M_isSignOf_0 rfl ?_
  refine q_bipush (v := 40) o_M_isSignOf_1 (by decide) ?_
  have hJ : ∀ vJ : Int32, vJ = (if p0 = 40 then (1 : Int32) else (if p0 = 41 then (1 : Int32) else (if p0 = 59 then (1 : Int32) else (if p0 = 61 then (1 : Int32) else (if p0 = 60 then (1 : Int32) else (if p0 = 43 then (1 : Int32) else (if p0 = 45 then (1 : Int32) else (if p0 = 42 then (1 : Int32) else (0 : Int32))))))))) → q_At G X_M_isSignOf d 0 0 53 [some (.int p0)] [.int vJ] σ Q := by
    intro vJ eJ
    rw [eJ]
    clear eJ vJ
    exact q_zre o_M_isSignOf_53 rfl h.1 h.2
  refine q_icmp_eq o_M_isSignOf_3 (fun c1 => ?_) (fun c1 => ?_)
  · refine q_iconst (v := 1) o_M_isSignOf_48 (by decide) ?_
    refine q_goto o_M_isSignOf_49 ?_
    exact hJ _ (Eq.symm (if_pos c1))
  · refine q_iload_n o_M_isSignOf_6 rfl ?_
    refine q_bipush (v := 41) o_M_isSignOf_7 (by decide) ?_
    refine q_icmp_eq o_M_isSignOf_9 (fun c2 => ?_) (fun c2 => ?_)
    · refine q_iconst (v := 1) o_M_isSignOf_48 (by decide) ?_
      refine q_goto o_M_isSignOf_49 ?_
      exact hJ _ (Eq.symm ((if_neg c1).trans (if_pos c2)))
    · refine q_iload_n o_M_isSignOf_12 rfl ?_
      refine q_bipush (v := 59) o_M_isSignOf_13 (by decide) ?_
      refine q_icmp_eq o_M_isSignOf_15 (fun c3 => ?_) (fun c3 => ?_)
      · refine q_iconst (v := 1) o_M_isSignOf_48 (by decide) ?_
        refine q_goto o_M_isSignOf_49 ?_
        exact hJ _ (Eq.symm (((if_neg c1).trans (if_neg c2)).trans (if_pos c3)))
      · refine q_iload_n o_M_isSignOf_18 rfl ?_
        refine q_bipush (v := 61) o_M_isSignOf_19 (by decide) ?_
        refine q_icmp_eq o_M_isSignOf_21 (fun c4 => ?_) (fun c4 => ?_)
        · refine q_iconst (v := 1) o_M_isSignOf_48 (by decide) ?_
          refine q_goto o_M_isSignOf_49 ?_
          exact hJ _ (Eq.symm ((((if_neg c1).trans (if_neg c2)).trans (if_neg c3)).trans (if_pos c4)))
        · refine q_iload_n o_M_isSignOf_24 rfl ?_
          refine q_bipush (v := 60) o_M_isSignOf_25 (by decide) ?_
          refine q_icmp_eq o_M_isSignOf_27 (fun c5 => ?_) (fun c5 => ?_)
          · refine q_iconst (v := 1) o_M_isSignOf_48 (by decide) ?_
            refine q_goto o_M_isSignOf_49 ?_
            exact hJ _ (Eq.symm (((((if_neg c1).trans (if_neg c2)).trans (if_neg c3)).trans (if_neg c4)).trans (if_pos c5)))
          · refine q_iload_n o_M_isSignOf_30 rfl ?_
            refine q_bipush (v := 43) o_M_isSignOf_31 (by decide) ?_
            refine q_icmp_eq o_M_isSignOf_33 (fun c6 => ?_) (fun c6 => ?_)
            · refine q_iconst (v := 1) o_M_isSignOf_48 (by decide) ?_
              refine q_goto o_M_isSignOf_49 ?_
              exact hJ _ (Eq.symm ((((((if_neg c1).trans (if_neg c2)).trans (if_neg c3)).trans (if_neg c4)).trans (if_neg c5)).trans (if_pos c6)))
            · refine q_iload_n o_M_isSignOf_36 rfl ?_
              refine q_bipush (v := 45) o_M_isSignOf_37 (by decide) ?_
              refine q_icmp_eq o_M_isSignOf_39 (fun c7 => ?_) (fun c7 => ?_)
              · refine q_iconst (v := 1) o_M_isSignOf_48 (by decide) ?_
                refine q_goto o_M_isSignOf_49 ?_
                exact hJ _ (Eq.symm (((((((if_neg c1).trans (if_neg c2)).trans (if_neg c3)).trans (if_neg c4)).trans (if_neg c5)).trans (if_neg c6)).trans (if_pos c7)))
              · refine q_iload_n o_M_isSignOf_42 rfl ?_
                refine q_bipush (v := 42) o_M_isSignOf_43 (by decide) ?_
                refine q_icmp_ne o_M_isSignOf_45 (fun c8 => ?_) (fun c8 => ?_)
                · refine q_iconst (v := 0) o_M_isSignOf_52 (by decide) ?_
                  exact hJ _ (Eq.symm ((((((((if_neg c1).trans (if_neg c2)).trans (if_neg c3)).trans (if_neg c4)).trans (if_neg c5)).trans (if_neg c6)).trans (if_neg c7)).trans (if_neg c8)))
                · refine q_iconst (v := 1) o_M_isSignOf_48 (by decide) ?_
                  refine q_goto o_M_isSignOf_49 ?_
                  exact hJ _ (Eq.symm ((((((((if_neg c1).trans (if_neg c2)).trans (if_neg c3)).trans (if_neg c4)).trans (if_neg c5)).trans (if_neg c6)).trans (if_neg c7)).trans (if_pos c8)))

set_option maxRecDepth 20000 in
theorem v_M_cutAll_0 {G : q_G} {d : Nat} {σ : q_S} {Q : Option Value → q_S → Prop}   (hs : q_Sh σ) (h : q_At G X_M_cutAll (d + 1) 0 0 17 [some (.ref 159), some (.int 0), some (.int 0), none, none, none, none] [] (q_setI (q_setI σ 159 3 (q_I σ 159 2)) 159 2 0) Q) : q_At G X_M_cutAll (d + 1) 0 0 0 [some (.ref 159), none, none, none, none, none, none] [] σ Q := by
  refine q_aload_n o_M_cutAll_0 rfl ?_
  refine q_aload_n o_M_cutAll_1 rfl ?_
  refine q2_getI hs o_M_cutAll_2 f_M_11 rfl ?_
  refine q2_putI hs o_M_cutAll_5 fp_M_166 rfl rfl rfl ?_
  refine q_aload_n o_M_cutAll_8 rfl ?_
  refine q_iconst (v := 0) o_M_cutAll_9 (by decide) ?_
  refine q2_putI hs o_M_cutAll_10 fp_M_11 rfl rfl rfl ?_
  refine q_iconst (v := 0) o_M_cutAll_13 (by decide) ?_
  refine q2_istn (ls' := [some (.ref 159), some (.int 0), none, none, none, none, none]) o_M_cutAll_14 (Nat.le_of_ble_eq_true rfl) rfl ?_
  refine q_iconst (v := 0) o_M_cutAll_15 (by decide) ?_
  refine q2_istn (ls' := [some (.ref 159), some (.int 0), some (.int 0), none, none, none, none]) o_M_cutAll_16 (Nat.le_of_ble_eq_true rfl) rfl ?_
  exact h

set_option maxRecDepth 20000 in
theorem v_M_cutAll_17 {G : q_G} {d : Nat} {σ : q_S} {Q : Option Value → q_S → Prop} {l1 : Int32} {l2 : Int32}  (hs : q_Sh σ) (h : (((q_I σ 159 3) ≤ l2 → (∃ k4, l1 = nI k4 ∧ k4 < 1002 ∧ (∃ k6, l1 = nI k6 ∧ k6 < 1002 ∧ Q none (q_setI (q_setI (q_setI (q_setI σ 161 k4 0) 162 k6 (q_I (q_setI σ 161 k4 0) 159 3)) 159 7 0) 159 8 0)))) ∧ (¬ (q_I σ 159 3) ≤ l2 → (∃ k9, l2 = nI k9 ∧ k9 < 1000 ∧ (((q_I σ 160 k9) = 10 → q_At G X_M_cutAll (d + 1) 0 0 17 [some (.ref 159), some (.int l1), some (.int (l2 + 1)), none, none, none, none] [] σ Q) ∧ (¬ (q_I σ 160 k9) = 10 → ((¬ (q_I σ 160 k9) = 32 → (∃ k16, l1 = nI k16 ∧ k16 < 1002 ∧ q_Call G d 0 0 X_M_isLetter [.int (q_I σ 160 k9)] (q_setI σ 162 k16 l2) (q_ri (fun x20 σ18 => ((x20 = 0 → q_Call G d 0 0 X_M_isDigit [.int (q_I σ 160 k9)] σ18 (q_ri (fun x26 σ24 => ((x26 = 0 → q_Call G d 0 0 X_M_isSignOf [.int (q_I σ 160 k9)] σ24 (q_ri (fun x32 σ30 => (∃ k35, l1 = nI k35 ∧ k35 < 1002 ∧ (∃ k37, l1 = nI k37 ∧ k37 < 1002 ∧ q_At G X_M_cutAll (d + 1) 0 0 17 [some (.ref 159), some (.int (l1 + 1)), some (.int (l2 + 1)), none, none, none, none] [] (q_setL (q_setI σ30 161 k35 (if x32 = 0 then (4 : Int32) else (3 : Int32))) 163 k37 ((q_I σ 160 k9).toInt64)) Q))))) ∧ (¬ x26 = 0 → q_At G X_M_cutAll (d + 1) 0 0 159 [some (.ref 159), some (.int l1), some (.int l2), some (.int (q_I σ 160 k9)), some (.int l2), some (.long 0), none] [] σ24 Q))))) ∧ (¬ x20 = 0 → q_At G X_M_cutAll (d + 1) 0 0 70 [some (.ref 159), some (.int l1), some (.int l2), some (.int (q_I σ 160 k9)), some (.int l2), some (.long 0), none] [] σ18 Q)))))) ∧ ((q_I σ 160 k9) = 32 → q_At G X_M_cutAll (d + 1) 0 0 17 [some (.ref 159), some (.int l1), some (.int (l2 + 1)), none, none, none, none] [] σ Q)))))))) : q_At G X_M_cutAll (d + 1) 0 0 17 [some (.ref 159), some (.int l1), some (.int l2), none, none, none, none] [] σ Q := by
  refine q_iload_n o_M_cutAll_17 rfl ?_
  refine q_aload_n o_M_cutAll_18 rfl ?_
  refine q2_getI hs o_M_cutAll_19 f_M_166 rfl ?_
  refine q_icmp_ge o_M_cutAll_22 (fun c1 => ?_) (fun c1 => ?_)
  · have h2 := h.1 c1
    refine q_aload_n o_M_cutAll_279 rfl ?_
    refine q2_getR hs o_M_cutAll_280 f_M_24 rfl (fz_159_4 hs) ?_
    refine q_iload_n o_M_cutAll_283 rfl ?_
    refine q_iconst (v := 0) o_M_cutAll_284 (by decide) ?_
    obtain ⟨k4, eh3, bh3, h3⟩ := h2
    refine q2_iast hs o_M_cutAll_285 rfl eh3 bh3 (by decide) ?_
    refine q_aload_n o_M_cutAll_286 rfl ?_
    refine q2_getR hs o_M_cutAll_287 f_M_27 rfl (fz_159_5 hs) ?_
    refine q_iload_n o_M_cutAll_290 rfl ?_
    refine q_aload_n o_M_cutAll_291 rfl ?_
    refine q2_getI hs o_M_cutAll_292 f_M_166 rfl ?_
    obtain ⟨k6, eh5, bh5, h5⟩ := h3
    refine q2_iast hs o_M_cutAll_295 rfl eh5 bh5 (by decide) ?_
    refine q_aload_n o_M_cutAll_296 rfl ?_
    refine q_iconst (v := 0) o_M_cutAll_297 (by decide) ?_
    refine q2_putI hs o_M_cutAll_298 fp_M_185 rfl rfl rfl ?_
    refine q_aload_n o_M_cutAll_301 rfl ?_
    refine q_iconst (v := 0) o_M_cutAll_302 (by decide) ?_
    refine q2_putI hs o_M_cutAll_303 fp_M_188 rfl rfl rfl ?_
    exact q_vre o_M_cutAll_306 rfl h5
  · have h7 := h.2 c1
    refine q_aload_n o_M_cutAll_25 rfl ?_
    refine q2_getR hs o_M_cutAll_26 f_M_14 rfl (fz_159_1 hs) ?_
    refine q_iload_n o_M_cutAll_29 rfl ?_
    obtain ⟨k9, eh8, bh8, h8⟩ := h7
    refine q2_iald hs o_M_cutAll_30 rfl eh8 bh8 (by decide) ?_
    refine q2_istn (ls' := [some (.ref 159), some (.int l1), some (.int l2), some (.int (q_I σ 160 k9)), none, none, none]) o_M_cutAll_31 (Nat.le_of_ble_eq_true rfl) rfl ?_
    refine q_iload_n o_M_cutAll_32 rfl ?_
    refine q_bipush (v := 10) o_M_cutAll_33 (by decide) ?_
    refine q_icmp_eq o_M_cutAll_35 (fun c10 => ?_) (fun c10 => ?_)
    · have h11 := h8.1 c10
      refine q2_inc (v := (l2 + 1)) (ls' := [some (.ref 159), some (.int l1), some (.int (l2 + 1)), some (.int (q_I σ 160 k9)), none, none, none]) o_M_cutAll_44 rfl rfl (Nat.le_of_ble_eq_true rfl) rfl ?_
      refine q_goto o_M_cutAll_47 ?_
      exact q_weak (ls' := [some (.ref 159), some (.int l1), some (.int (l2 + 1)), none, none, none, none]) (And.intro rfl (And.intro rfl (And.intro rfl trivial))) h11
    · have h12 := h8.2 c10
      refine q_iload_n o_M_cutAll_38 rfl ?_
      refine q_bipush (v := 32) o_M_cutAll_39 (by decide) ?_
      refine q_icmp_ne o_M_cutAll_41 (fun c13 => ?_) (fun c13 => ?_)
      · have h14 := h12.1 c13
        refine q_iload_n o_M_cutAll_50 rfl ?_
        refine q2_ist (ls' := [some (.ref 159), some (.int l1), some (.int l2), some (.int (q_I σ 160 k9)), some (.int l2), none, none]) o_M_cutAll_51 (Nat.le_of_ble_eq_true rfl) rfl ?_
        refine q_lconst (v := 0) o_M_cutAll_53 (by decide) ?_
        refine q2_lst (ls' := [some (.ref 159), some (.int l1), some (.int l2), some (.int (q_I σ 160 k9)), some (.int l2), some (.long 0), none]) o_M_cutAll_54 (Nat.le_of_ble_eq_true rfl) rfl ?_
        refine q_aload_n o_M_cutAll_56 rfl ?_
        refine q2_getR hs o_M_cutAll_57 f_M_27 rfl (fz_159_5 hs) ?_
        refine q_iload_n o_M_cutAll_60 rfl ?_
        refine q_iload_n o_M_cutAll_61 rfl ?_
        obtain ⟨k16, eh15, bh15, h15⟩ := h14
        refine q2_iast hs o_M_cutAll_62 rfl eh15 bh15 (by decide) ?_
        refine q_iload_n o_M_cutAll_63 rfl ?_
        refine q2_callSi _ (As := [.int (q_I σ 160 k9)]) (st := []) hs o_M_cutAll_64 k_M_162 rfl (Nat.le_of_ble_eq_true rfl) h15 (fun x20 σ18 hs19 h17 => ?_)
        refine q_if_eq o_M_cutAll_67 (fun c21 => ?_) (fun c21 => ?_)
        · have h22 := h17.1 c21
          refine q_iload_n o_M_cutAll_152 rfl ?_
          refine q2_callSi _ (As := [.int (q_I σ 160 k9)]) (st := []) hs19 o_M_cutAll_153 k_M_175 rfl (Nat.le_of_ble_eq_true rfl) h22 (fun x26 σ24 hs25 h23 => ?_)
          refine q_if_eq o_M_cutAll_156 (fun c27 => ?_) (fun c27 => ?_)
          · have h28 := h23.1 c27
            refine q_iload_n o_M_cutAll_240 rfl ?_
            refine q_i2l o_M_cutAll_241 ?_
            refine q2_lst (ls' := [some (.ref 159), some (.int l1), some (.int l2), some (.int (q_I σ 160 k9)), some (.int l2), some (.long ((q_I σ 160 k9).toInt64)), none]) o_M_cutAll_242 (Nat.le_of_ble_eq_true rfl) rfl ?_
            refine q_aload_n o_M_cutAll_244 rfl ?_
            refine q2_getR hs25 o_M_cutAll_245 f_M_24 rfl (fz_159_4 hs25) ?_
            refine q_iload_n o_M_cutAll_248 rfl ?_
            refine q_iload_n o_M_cutAll_249 rfl ?_
            refine q2_callSi _ (As := [.int (q_I σ 160 k9)]) (st := [.int l1, .ref 161]) hs25 o_M_cutAll_250 k_M_182 rfl (Nat.le_of_ble_eq_true rfl) h28 (fun x32 σ30 hs31 h29 => ?_)
            have hJ : ∀ vJ : Int32, vJ = (if x32 = 0 then (4 : Int32) else (3 : Int32)) → q_At G X_M_cutAll (d + 1) 0 0 261 [some (.ref 159), some (.int l1), some (.int l2), some (.int (q_I σ 160 k9)), some (.int l2), some (.long ((q_I σ 160 k9).toInt64)), none] [.int vJ, .int l1, .ref 161] σ30 Q := by
              intro vJ eJ
              rw [eJ]
              clear eJ vJ
              obtain ⟨k35, eh34, bh34, h34⟩ := h29
              refine q2_iast hs31 o_M_cutAll_261 rfl eh34 bh34 (by decide) ?_
              refine q2_inc (v := (l2 + 1)) (ls' := [some (.ref 159), some (.int l1), some (.int (l2 + 1)), some (.int (q_I σ 160 k9)), some (.int l2), some (.long ((q_I σ 160 k9).toInt64)), none]) o_M_cutAll_262 rfl rfl (Nat.le_of_ble_eq_true rfl) rfl ?_
              refine q_aload_n o_M_cutAll_265 rfl ?_
              refine q2_getR hs31 o_M_cutAll_266 f_M_30 rfl (fz_159_6 hs31) ?_
              refine q_iload_n o_M_cutAll_269 rfl ?_
              refine q_lload o_M_cutAll_270 rfl ?_
              obtain ⟨k37, eh36, bh36, h36⟩ := h34
              refine q2_last hs31 o_M_cutAll_272 rfl eh36 bh36 (by decide) ?_
              refine q2_inc (v := (l1 + 1)) (ls' := [some (.ref 159), some (.int (l1 + 1)), some (.int (l2 + 1)), some (.int (q_I σ 160 k9)), some (.int l2), some (.long ((q_I σ 160 k9).toInt64)), none]) o_M_cutAll_273 rfl rfl (Nat.le_of_ble_eq_true rfl) rfl ?_
              refine q_goto o_M_cutAll_276 ?_
              exact q_weak (ls' := [some (.ref 159), some (.int (l1 + 1)), some (.int (l2 + 1)), none, none, none, none]) (And.intro rfl (And.intro rfl (And.intro rfl trivial))) h36
            refine q_if_eq o_M_cutAll_253 (fun c33 => ?_) (fun c33 => ?_)
            · refine q_iconst (v := 4) o_M_cutAll_260 (by decide) ?_
              exact hJ _ (Eq.symm (if_pos c33))
            · refine q_iconst (v := 3) o_M_cutAll_256 (by decide) ?_
              refine q_goto o_M_cutAll_257 ?_
              exact hJ _ (Eq.symm (if_neg c33))
          · have h38 := h23.2 c27
            exact h38
        · have h39 := h17.2 c21
          exact h39
      · have h40 := h12.2 c13
        refine q2_inc (v := (l2 + 1)) (ls' := [some (.ref 159), some (.int l1), some (.int (l2 + 1)), some (.int (q_I σ 160 k9)), none, none, none]) o_M_cutAll_44 rfl rfl (Nat.le_of_ble_eq_true rfl) rfl ?_
        refine q_goto o_M_cutAll_47 ?_
        exact q_weak (ls' := [some (.ref 159), some (.int l1), some (.int (l2 + 1)), none, none, none, none]) (And.intro rfl (And.intro rfl (And.intro rfl trivial))) h40

set_option maxRecDepth 20000 in
theorem v_M_cutAll_70 {G : q_G} {d : Nat} {σ : q_S} {Q : Option Value → q_S → Prop} {l1 : Int32} {l2 : Int32} {l3 : Int32} {l4 : Int32} {l5 : Int64}  (hs : q_Sh σ) (h : (((q_I σ 159 3) ≤ l2 → (∃ k5, l1 = nI k5 ∧ k5 < 1002 ∧ (∃ k7, l1 = nI k7 ∧ k7 < 1002 ∧ q_At G X_M_cutAll (d + 1) 0 0 17 [some (.ref 159), some (.int (l1 + 1)), some (.int l2), none, none, none, none] [] (q_setL (q_setI σ 161 k5 (if (l2 - l4) ≤ 8 then (1 : Int32) else (4 : Int32))) 163 k7 l5) Q))) ∧ (¬ (q_I σ 159 3) ≤ l2 → (∃ k10, l2 = nI k10 ∧ k10 < 1000 ∧ q_Call G d 0 0 X_M_isLetter [.int (q_I σ 160 k10)] σ (q_ri (fun x14 σ12 => ((x14 = 0 → (∃ k19, l1 = nI k19 ∧ k19 < 1002 ∧ (∃ k21, l1 = nI k21 ∧ k21 < 1002 ∧ q_At G X_M_cutAll (d + 1) 0 0 17 [some (.ref 159), some (.int (l1 + 1)), some (.int l2), none, none, none, none] [] (q_setL (q_setI σ12 161 k19 (if (l2 - l4) ≤ 8 then (1 : Int32) else (4 : Int32))) 163 k21 l5) Q))) ∧ (¬ x14 = 0 → ((8 ≤ (l2 - l4) → q_At G X_M_cutAll (d + 1) 0 0 70 [some (.ref 159), some (.int l1), some (.int (l2 + 1)), some (.int l3), some (.int l4), some (.long l5), none] [] σ12 Q) ∧ (¬ 8 ≤ (l2 - l4) → (∃ k27, l2 = nI k27 ∧ k27 < 1000 ∧ q_Call G d 0 0 X_M_rank [.int (q_I σ12 160 k27)] σ12 (q_ri (fun x31 σ29 => q_At G X_M_cutAll (d + 1) 0 0 70 [some (.ref 159), some (.int l1), some (.int (l2 + 1)), some (.int l3), some (.int l4), some (.long ((37 * l5) + x31.toInt64)), none] [] σ29 Q))))))))))))) : q_At G X_M_cutAll (d + 1) 0 0 70 [some (.ref 159), some (.int l1), some (.int l2), some (.int l3), some (.int l4), some (.long l5), none] [] σ Q := by
  refine q_iload_n o_M_cutAll_70 rfl ?_
  refine q_aload_n o_M_cutAll_71 rfl ?_
  refine q2_getI hs o_M_cutAll_72 f_M_166 rfl ?_
  refine q_icmp_ge o_M_cutAll_75 (fun c1 => ?_) (fun c1 => ?_)
  · have h2 := h.1 c1
    refine q_aload_n o_M_cutAll_129 rfl ?_
    refine q2_getR hs o_M_cutAll_130 f_M_24 rfl (fz_159_4 hs) ?_
    refine q_iload_n o_M_cutAll_133 rfl ?_
    refine q_iload_n o_M_cutAll_134 rfl ?_
    refine q_iload o_M_cutAll_135 rfl ?_
    refine q_isub o_M_cutAll_137 ?_
    refine q_bipush (v := 8) o_M_cutAll_138 (by decide) ?_
    have hJ : ∀ vJ : Int32, vJ = (if (l2 - l4) ≤ 8 then (1 : Int32) else (4 : Int32)) → q_At G X_M_cutAll (d + 1) 0 0 148 [some (.ref 159), some (.int l1), some (.int l2), some (.int l3), some (.int l4), some (.long l5), none] [.int vJ, .int l1, .ref 161] σ Q := by
      intro vJ eJ
      rw [eJ]
      clear eJ vJ
      obtain ⟨k5, eh4, bh4, h4⟩ := h2
      refine q2_iast hs o_M_cutAll_148 rfl eh4 bh4 (by decide) ?_
      refine q_goto o_M_cutAll_149 ?_
      refine q_aload_n o_M_cutAll_265 rfl ?_
      refine q2_getR hs o_M_cutAll_266 f_M_30 rfl (fz_159_6 hs) ?_
      refine q_iload_n o_M_cutAll_269 rfl ?_
      refine q_lload o_M_cutAll_270 rfl ?_
      obtain ⟨k7, eh6, bh6, h6⟩ := h4
      refine q2_last hs o_M_cutAll_272 rfl eh6 bh6 (by decide) ?_
      refine q2_inc (v := (l1 + 1)) (ls' := [some (.ref 159), some (.int (l1 + 1)), some (.int l2), some (.int l3), some (.int l4), some (.long l5), none]) o_M_cutAll_273 rfl rfl (Nat.le_of_ble_eq_true rfl) rfl ?_
      refine q_goto o_M_cutAll_276 ?_
      exact q_weak (ls' := [some (.ref 159), some (.int (l1 + 1)), some (.int l2), none, none, none, none]) (And.intro rfl (And.intro rfl (And.intro rfl trivial))) h6
    refine q_icmp_le o_M_cutAll_140 (fun c3 => ?_) (fun c3 => ?_)
    · refine q_iconst (v := 1) o_M_cutAll_147 (by decide) ?_
      exact hJ _ (Eq.symm (if_pos c3))
    · refine q_iconst (v := 4) o_M_cutAll_143 (by decide) ?_
      refine q_goto o_M_cutAll_144 ?_
      exact hJ _ (Eq.symm (if_neg c3))
  · have h8 := h.2 c1
    refine q_aload_n o_M_cutAll_78 rfl ?_
    refine q2_getR hs o_M_cutAll_79 f_M_14 rfl (fz_159_1 hs) ?_
    refine q_iload_n o_M_cutAll_82 rfl ?_
    obtain ⟨k10, eh9, bh9, h9⟩ := h8
    refine q2_iald hs o_M_cutAll_83 rfl eh9 bh9 (by decide) ?_
    refine q2_callSi _ (As := [.int (q_I σ 160 k10)]) (st := []) hs o_M_cutAll_84 k_M_162 rfl (Nat.le_of_ble_eq_true rfl) h9 (fun x14 σ12 hs13 h11 => ?_)
    refine q_if_eq o_M_cutAll_87 (fun c15 => ?_) (fun c15 => ?_)
    · have h16 := h11.1 c15
      refine q_aload_n o_M_cutAll_129 rfl ?_
      refine q2_getR hs13 o_M_cutAll_130 f_M_24 rfl (fz_159_4 hs13) ?_
      refine q_iload_n o_M_cutAll_133 rfl ?_
      refine q_iload_n o_M_cutAll_134 rfl ?_
      refine q_iload o_M_cutAll_135 rfl ?_
      refine q_isub o_M_cutAll_137 ?_
      refine q_bipush (v := 8) o_M_cutAll_138 (by decide) ?_
      have hJ : ∀ vJ : Int32, vJ = (if (l2 - l4) ≤ 8 then (1 : Int32) else (4 : Int32)) → q_At G X_M_cutAll (d + 1) 0 0 148 [some (.ref 159), some (.int l1), some (.int l2), some (.int l3), some (.int l4), some (.long l5), none] [.int vJ, .int l1, .ref 161] σ12 Q := by
        intro vJ eJ
        rw [eJ]
        clear eJ vJ
        obtain ⟨k19, eh18, bh18, h18⟩ := h16
        refine q2_iast hs13 o_M_cutAll_148 rfl eh18 bh18 (by decide) ?_
        refine q_goto o_M_cutAll_149 ?_
        refine q_aload_n o_M_cutAll_265 rfl ?_
        refine q2_getR hs13 o_M_cutAll_266 f_M_30 rfl (fz_159_6 hs13) ?_
        refine q_iload_n o_M_cutAll_269 rfl ?_
        refine q_lload o_M_cutAll_270 rfl ?_
        obtain ⟨k21, eh20, bh20, h20⟩ := h18
        refine q2_last hs13 o_M_cutAll_272 rfl eh20 bh20 (by decide) ?_
        refine q2_inc (v := (l1 + 1)) (ls' := [some (.ref 159), some (.int (l1 + 1)), some (.int l2), some (.int l3), some (.int l4), some (.long l5), none]) o_M_cutAll_273 rfl rfl (Nat.le_of_ble_eq_true rfl) rfl ?_
        refine q_goto o_M_cutAll_276 ?_
        exact q_weak (ls' := [some (.ref 159), some (.int (l1 + 1)), some (.int l2), none, none, none, none]) (And.intro rfl (And.intro rfl (And.intro rfl trivial))) h20
      refine q_icmp_le o_M_cutAll_140 (fun c17 => ?_) (fun c17 => ?_)
      · refine q_iconst (v := 1) o_M_cutAll_147 (by decide) ?_
        exact hJ _ (Eq.symm (if_pos c17))
      · refine q_iconst (v := 4) o_M_cutAll_143 (by decide) ?_
        refine q_goto o_M_cutAll_144 ?_
        exact hJ _ (Eq.symm (if_neg c17))
    · have h22 := h11.2 c15
      refine q_iload_n o_M_cutAll_90 rfl ?_
      refine q_iload o_M_cutAll_91 rfl ?_
      refine q_isub o_M_cutAll_93 ?_
      refine q_bipush (v := 8) o_M_cutAll_94 (by decide) ?_
      refine q_icmp_ge o_M_cutAll_96 (fun c23 => ?_) (fun c23 => ?_)
      · have h24 := h22.1 c23
        refine q_lload o_M_cutAll_119 rfl ?_
        refine q2_lst (ls' := [some (.ref 159), some (.int l1), some (.int l2), some (.int l3), some (.int l4), some (.long l5), none]) o_M_cutAll_121 (Nat.le_of_ble_eq_true rfl) rfl ?_
        refine q2_inc (v := (l2 + 1)) (ls' := [some (.ref 159), some (.int l1), some (.int (l2 + 1)), some (.int l3), some (.int l4), some (.long l5), none]) o_M_cutAll_123 rfl rfl (Nat.le_of_ble_eq_true rfl) rfl ?_
        refine q_goto o_M_cutAll_126 ?_
        exact h24
      · have h25 := h22.2 c23
        refine q_ldc2 o_M_cutAll_99 n_M_169 ?_
        refine q_lload o_M_cutAll_102 rfl ?_
        refine q_lmul o_M_cutAll_104 ?_
        refine q_aload_n o_M_cutAll_105 rfl ?_
        refine q2_getR hs13 o_M_cutAll_106 f_M_14 rfl (fz_159_1 hs13) ?_
        refine q_iload_n o_M_cutAll_109 rfl ?_
        obtain ⟨k27, eh26, bh26, h26⟩ := h25
        refine q2_iald hs13 o_M_cutAll_110 rfl eh26 bh26 (by decide) ?_
        refine q2_callSi _ (As := [.int (q_I σ12 160 k27)]) (st := [.long (37 * l5)]) hs13 o_M_cutAll_111 k_M_171 rfl (Nat.le_of_ble_eq_true rfl) h26 (fun x31 σ29 hs30 h28 => ?_)
        refine q_i2l o_M_cutAll_114 ?_
        refine q_ladd o_M_cutAll_115 ?_
        refine q_goto o_M_cutAll_116 ?_
        refine q2_lst (ls' := [some (.ref 159), some (.int l1), some (.int l2), some (.int l3), some (.int l4), some (.long ((37 * l5) + x31.toInt64)), none]) o_M_cutAll_121 (Nat.le_of_ble_eq_true rfl) rfl ?_
        refine q2_inc (v := (l2 + 1)) (ls' := [some (.ref 159), some (.int l1), some (.int (l2 + 1)), some (.int l3), some (.int l4), some (.long ((37 * l5) + x31.toInt64)), none]) o_M_cutAll_123 rfl rfl (Nat.le_of_ble_eq_true rfl) rfl ?_
        refine q_goto o_M_cutAll_126 ?_
        exact h28

set_option maxRecDepth 20000 in
theorem v_M_cutAll_159 {G : q_G} {d : Nat} {σ : q_S} {Q : Option Value → q_S → Prop} {l1 : Int32} {l2 : Int32} {l3 : Int32} {l4 : Int32} {l5 : Int64}  (hs : q_Sh σ) (h : (((q_I σ 159 3) ≤ l2 → (∃ k5, l1 = nI k5 ∧ k5 < 1002 ∧ (∃ k7, l1 = nI k7 ∧ k7 < 1002 ∧ q_At G X_M_cutAll (d + 1) 0 0 17 [some (.ref 159), some (.int (l1 + 1)), some (.int l2), none, none, none, none] [] (q_setL (q_setI σ 161 k5 (if (l2 - l4) ≤ 4 then (2 : Int32) else (4 : Int32))) 163 k7 l5) Q))) ∧ (¬ (q_I σ 159 3) ≤ l2 → (∃ k10, l2 = nI k10 ∧ k10 < 1000 ∧ q_Call G d 0 0 X_M_isDigit [.int (q_I σ 160 k10)] σ (q_ri (fun x14 σ12 => ((x14 = 0 → (∃ k19, l1 = nI k19 ∧ k19 < 1002 ∧ (∃ k21, l1 = nI k21 ∧ k21 < 1002 ∧ q_At G X_M_cutAll (d + 1) 0 0 17 [some (.ref 159), some (.int (l1 + 1)), some (.int l2), none, none, none, none] [] (q_setL (q_setI σ12 161 k19 (if (l2 - l4) ≤ 4 then (2 : Int32) else (4 : Int32))) 163 k21 l5) Q))) ∧ (¬ x14 = 0 → ((4 ≤ (l2 - l4) → q_At G X_M_cutAll (d + 1) 0 0 159 [some (.ref 159), some (.int l1), some (.int (l2 + 1)), some (.int l3), some (.int l4), some (.long l5), none] [] σ12 Q) ∧ (¬ 4 ≤ (l2 - l4) → (∃ k27, l2 = nI k27 ∧ k27 < 1000 ∧ q_At G X_M_cutAll (d + 1) 0 0 159 [some (.ref 159), some (.int l1), some (.int (l2 + 1)), some (.int l3), some (.int l4), some (.long (((10 * l5) + (q_I σ12 160 k27).toInt64) - 48)), none] [] σ12 Q))))))))))) : q_At G X_M_cutAll (d + 1) 0 0 159 [some (.ref 159), some (.int l1), some (.int l2), some (.int l3), some (.int l4), some (.long l5), none] [] σ Q := by
  refine q_iload_n o_M_cutAll_159 rfl ?_
  refine q_aload_n o_M_cutAll_160 rfl ?_
  refine q2_getI hs o_M_cutAll_161 f_M_166 rfl ?_
  refine q_icmp_ge o_M_cutAll_164 (fun c1 => ?_) (fun c1 => ?_)
  · have h2 := h.1 c1
    refine q_aload_n o_M_cutAll_218 rfl ?_
    refine q2_getR hs o_M_cutAll_219 f_M_24 rfl (fz_159_4 hs) ?_
    refine q_iload_n o_M_cutAll_222 rfl ?_
    refine q_iload_n o_M_cutAll_223 rfl ?_
    refine q_iload o_M_cutAll_224 rfl ?_
    refine q_isub o_M_cutAll_226 ?_
    refine q_iconst (v := 4) o_M_cutAll_227 (by decide) ?_
    have hJ : ∀ vJ : Int32, vJ = (if (l2 - l4) ≤ 4 then (2 : Int32) else (4 : Int32)) → q_At G X_M_cutAll (d + 1) 0 0 236 [some (.ref 159), some (.int l1), some (.int l2), some (.int l3), some (.int l4), some (.long l5), none] [.int vJ, .int l1, .ref 161] σ Q := by
      intro vJ eJ
      rw [eJ]
      clear eJ vJ
      obtain ⟨k5, eh4, bh4, h4⟩ := h2
      refine q2_iast hs o_M_cutAll_236 rfl eh4 bh4 (by decide) ?_
      refine q_goto o_M_cutAll_237 ?_
      refine q_aload_n o_M_cutAll_265 rfl ?_
      refine q2_getR hs o_M_cutAll_266 f_M_30 rfl (fz_159_6 hs) ?_
      refine q_iload_n o_M_cutAll_269 rfl ?_
      refine q_lload o_M_cutAll_270 rfl ?_
      obtain ⟨k7, eh6, bh6, h6⟩ := h4
      refine q2_last hs o_M_cutAll_272 rfl eh6 bh6 (by decide) ?_
      refine q2_inc (v := (l1 + 1)) (ls' := [some (.ref 159), some (.int (l1 + 1)), some (.int l2), some (.int l3), some (.int l4), some (.long l5), none]) o_M_cutAll_273 rfl rfl (Nat.le_of_ble_eq_true rfl) rfl ?_
      refine q_goto o_M_cutAll_276 ?_
      exact q_weak (ls' := [some (.ref 159), some (.int (l1 + 1)), some (.int l2), none, none, none, none]) (And.intro rfl (And.intro rfl (And.intro rfl trivial))) h6
    refine q_icmp_le o_M_cutAll_228 (fun c3 => ?_) (fun c3 => ?_)
    · refine q_iconst (v := 2) o_M_cutAll_235 (by decide) ?_
      exact hJ _ (Eq.symm (if_pos c3))
    · refine q_iconst (v := 4) o_M_cutAll_231 (by decide) ?_
      refine q_goto o_M_cutAll_232 ?_
      exact hJ _ (Eq.symm (if_neg c3))
  · have h8 := h.2 c1
    refine q_aload_n o_M_cutAll_167 rfl ?_
    refine q2_getR hs o_M_cutAll_168 f_M_14 rfl (fz_159_1 hs) ?_
    refine q_iload_n o_M_cutAll_171 rfl ?_
    obtain ⟨k10, eh9, bh9, h9⟩ := h8
    refine q2_iald hs o_M_cutAll_172 rfl eh9 bh9 (by decide) ?_
    refine q2_callSi _ (As := [.int (q_I σ 160 k10)]) (st := []) hs o_M_cutAll_173 k_M_175 rfl (Nat.le_of_ble_eq_true rfl) h9 (fun x14 σ12 hs13 h11 => ?_)
    refine q_if_eq o_M_cutAll_176 (fun c15 => ?_) (fun c15 => ?_)
    · have h16 := h11.1 c15
      refine q_aload_n o_M_cutAll_218 rfl ?_
      refine q2_getR hs13 o_M_cutAll_219 f_M_24 rfl (fz_159_4 hs13) ?_
      refine q_iload_n o_M_cutAll_222 rfl ?_
      refine q_iload_n o_M_cutAll_223 rfl ?_
      refine q_iload o_M_cutAll_224 rfl ?_
      refine q_isub o_M_cutAll_226 ?_
      refine q_iconst (v := 4) o_M_cutAll_227 (by decide) ?_
      have hJ : ∀ vJ : Int32, vJ = (if (l2 - l4) ≤ 4 then (2 : Int32) else (4 : Int32)) → q_At G X_M_cutAll (d + 1) 0 0 236 [some (.ref 159), some (.int l1), some (.int l2), some (.int l3), some (.int l4), some (.long l5), none] [.int vJ, .int l1, .ref 161] σ12 Q := by
        intro vJ eJ
        rw [eJ]
        clear eJ vJ
        obtain ⟨k19, eh18, bh18, h18⟩ := h16
        refine q2_iast hs13 o_M_cutAll_236 rfl eh18 bh18 (by decide) ?_
        refine q_goto o_M_cutAll_237 ?_
        refine q_aload_n o_M_cutAll_265 rfl ?_
        refine q2_getR hs13 o_M_cutAll_266 f_M_30 rfl (fz_159_6 hs13) ?_
        refine q_iload_n o_M_cutAll_269 rfl ?_
        refine q_lload o_M_cutAll_270 rfl ?_
        obtain ⟨k21, eh20, bh20, h20⟩ := h18
        refine q2_last hs13 o_M_cutAll_272 rfl eh20 bh20 (by decide) ?_
        refine q2_inc (v := (l1 + 1)) (ls' := [some (.ref 159), some (.int (l1 + 1)), some (.int l2), some (.int l3), some (.int l4), some (.long l5), none]) o_M_cutAll_273 rfl rfl (Nat.le_of_ble_eq_true rfl) rfl ?_
        refine q_goto o_M_cutAll_276 ?_
        exact q_weak (ls' := [some (.ref 159), some (.int (l1 + 1)), some (.int l2), none, none, none, none]) (And.intro rfl (And.intro rfl (And.intro rfl trivial))) h20
      refine q_icmp_le o_M_cutAll_228 (fun c17 => ?_) (fun c17 => ?_)
      · refine q_iconst (v := 2) o_M_cutAll_235 (by decide) ?_
        exact hJ _ (Eq.symm (if_pos c17))
      · refine q_iconst (v := 4) o_M_cutAll_231 (by decide) ?_
        refine q_goto o_M_cutAll_232 ?_
        exact hJ _ (Eq.symm (if_neg c17))
    · have h22 := h11.2 c15
      refine q_iload_n o_M_cutAll_179 rfl ?_
      refine q_iload o_M_cutAll_180 rfl ?_
      refine q_isub o_M_cutAll_182 ?_
      refine q_iconst (v := 4) o_M_cutAll_183 (by decide) ?_
      refine q_icmp_ge o_M_cutAll_184 (fun c23 => ?_) (fun c23 => ?_)
      · have h24 := h22.1 c23
        refine q_lload o_M_cutAll_208 rfl ?_
        refine q2_lst (ls' := [some (.ref 159), some (.int l1), some (.int l2), some (.int l3), some (.int l4), some (.long l5), none]) o_M_cutAll_210 (Nat.le_of_ble_eq_true rfl) rfl ?_
        refine q2_inc (v := (l2 + 1)) (ls' := [some (.ref 159), some (.int l1), some (.int (l2 + 1)), some (.int l3), some (.int l4), some (.long l5), none]) o_M_cutAll_212 rfl rfl (Nat.le_of_ble_eq_true rfl) rfl ?_
        refine q_goto o_M_cutAll_215 ?_
        exact h24
      · have h25 := h22.2 c23
        refine q_ldc2 o_M_cutAll_187 n_M_178 ?_
        refine q_lload o_M_cutAll_190 rfl ?_
        refine q_lmul o_M_cutAll_192 ?_
        refine q_aload_n o_M_cutAll_193 rfl ?_
        refine q2_getR hs13 o_M_cutAll_194 f_M_14 rfl (fz_159_1 hs13) ?_
        refine q_iload_n o_M_cutAll_197 rfl ?_
        obtain ⟨k27, eh26, bh26, h26⟩ := h25
        refine q2_iald hs13 o_M_cutAll_198 rfl eh26 bh26 (by decide) ?_
        refine q_i2l o_M_cutAll_199 ?_
        refine q_ladd o_M_cutAll_200 ?_
        refine q_ldc2 o_M_cutAll_201 n_M_180 ?_
        refine q_lsub o_M_cutAll_204 ?_
        refine q_goto o_M_cutAll_205 ?_
        refine q2_lst (ls' := [some (.ref 159), some (.int l1), some (.int l2), some (.int l3), some (.int l4), some (.long (((10 * l5) + (q_I σ12 160 k27).toInt64) - 48)), none]) o_M_cutAll_210 (Nat.le_of_ble_eq_true rfl) rfl ?_
        refine q2_inc (v := (l2 + 1)) (ls' := [some (.ref 159), some (.int l1), some (.int (l2 + 1)), some (.int l3), some (.int l4), some (.long (((10 * l5) + (q_I σ12 160 k27).toInt64) - 48)), none]) o_M_cutAll_212 rfl rfl (Nat.le_of_ble_eq_true rfl) rfl ?_
        refine q_goto o_M_cutAll_215 ?_
        exact h26

set_option maxRecDepth 20000 in
theorem v_M_wrong_0 {G : q_G} {d : Nat} {σ : q_S} {Q : Option Value → q_S → Prop} {p0 : Int32}  (hs : q_Sh σ) (h : ((¬ (q_I σ 159 8) = 0 → Q none σ) ∧ ((q_I σ 159 8) = 0 → (∃ k5, (q_I σ 159 7) = nI k5 ∧ k5 < 1002 ∧ Q none (q_setI σ 159 8 (p0 + (16 * (q_I σ 162 k5)))))))) : q_At G X_M_wrong d 0 0 0 [some (.ref 159), some (.int p0)] [] σ Q := by
  refine q_aload_n o_M_wrong_0 rfl ?_
  refine q2_getI hs o_M_wrong_1 f_M_188 rfl ?_
  refine q_if_ne o_M_wrong_4 (fun c1 => ?_) (fun c1 => ?_)
  · have h2 := h.1 c1
    exact q_vre o_M_wrong_25 rfl h2
  · have h3 := h.2 c1
    refine q_aload_n o_M_wrong_7 rfl ?_
    refine q_iload_n o_M_wrong_8 rfl ?_
    refine q_bipush (v := 16) o_M_wrong_9 (by decide) ?_
    refine q_aload_n o_M_wrong_11 rfl ?_
    refine q2_getR hs o_M_wrong_12 f_M_27 rfl (fz_159_5 hs) ?_
    refine q_aload_n o_M_wrong_15 rfl ?_
    refine q2_getI hs o_M_wrong_16 f_M_185 rfl ?_
    obtain ⟨k5, eh4, bh4, h4⟩ := h3
    refine q2_iald hs o_M_wrong_19 rfl eh4 bh4 (by decide) ?_
    refine q_imul o_M_wrong_20 ?_
    refine q_iadd o_M_wrong_21 ?_
    refine q2_putI hs o_M_wrong_22 fp_M_188 rfl rfl rfl ?_
    exact q_vre o_M_wrong_25 rfl h4

set_option maxRecDepth 20000 in
theorem v_M_isSign_0 {G : q_G} {d : Nat} {σ : q_S} {Q : Option Value → q_S → Prop} {p0 : Int32}  (hs : q_Sh σ) (h : ((¬ (q_I σ 159 8) = 0 → Q (some (.int 0)) σ) ∧ ((q_I σ 159 8) = 0 → (∃ k5, (q_I σ 159 7) = nI k5 ∧ k5 < 1002 ∧ ((¬ (q_I σ 161 k5) = 3 → Q (some (.int 0)) σ) ∧ ((q_I σ 161 k5) = 3 → (∃ k10, (q_I σ 159 7) = nI k10 ∧ k10 < 1002 ∧ (narrow .boolean (.int (if (lg_cmp (q_L σ 163 k10) p0.toInt64) = 0 then (1 : Int32) else (0 : Int32))) = .int (if (lg_cmp (q_L σ 163 k10) p0.toInt64) = 0 then (1 : Int32) else (0 : Int32)) ∧ Q (some (.int (if (lg_cmp (q_L σ 163 k10) p0.toInt64) = 0 then (1 : Int32) else (0 : Int32)))) σ)))))))) : q_At G X_M_isSign d 0 0 0 [some (.ref 159), some (.int p0)] [] σ Q := by
  refine q_aload_n o_M_isSign_0 rfl ?_
  refine q2_getI hs o_M_isSign_1 f_M_188 rfl ?_
  refine q_if_ne o_M_isSign_4 (fun c1 => ?_) (fun c1 => ?_)
  · have h2 := h.1 c1
    refine q_iconst (v := 0) o_M_isSign_39 (by decide) ?_
    exact q_zre o_M_isSign_40 rfl rfl h2
  · have h3 := h.2 c1
    refine q_aload_n o_M_isSign_7 rfl ?_
    refine q2_getR hs o_M_isSign_8 f_M_24 rfl (fz_159_4 hs) ?_
    refine q_aload_n o_M_isSign_11 rfl ?_
    refine q2_getI hs o_M_isSign_12 f_M_185 rfl ?_
    obtain ⟨k5, eh4, bh4, h4⟩ := h3
    refine q2_iald hs o_M_isSign_15 rfl eh4 bh4 (by decide) ?_
    refine q_iconst (v := 3) o_M_isSign_16 (by decide) ?_
    refine q_icmp_ne o_M_isSign_17 (fun c6 => ?_) (fun c6 => ?_)
    · have h7 := h4.1 c6
      refine q_iconst (v := 0) o_M_isSign_39 (by decide) ?_
      exact q_zre o_M_isSign_40 rfl rfl h7
    · have h8 := h4.2 c6
      refine q_aload_n o_M_isSign_20 rfl ?_
      refine q2_getR hs o_M_isSign_21 f_M_30 rfl (fz_159_6 hs) ?_
      refine q_aload_n o_M_isSign_24 rfl ?_
      refine q2_getI hs o_M_isSign_25 f_M_185 rfl ?_
      obtain ⟨k10, eh9, bh9, h9⟩ := h8
      refine q2_lald hs o_M_isSign_28 rfl eh9 bh9 (by decide) ?_
      refine q_iload_n o_M_isSign_29 rfl ?_
      refine q_i2l o_M_isSign_30 ?_
      refine q_lcmp o_M_isSign_31 ?_
      have hJ : ∀ vJ : Int32, vJ = (if (lg_cmp (q_L σ 163 k10) p0.toInt64) = 0 then (1 : Int32) else (0 : Int32)) → q_At G X_M_isSign d 0 0 40 [some (.ref 159), some (.int p0)] [.int vJ] σ Q := by
        intro vJ eJ
        rw [eJ]
        clear eJ vJ
        exact q_zre o_M_isSign_40 rfl h9.1 h9.2
      refine q_if_ne o_M_isSign_32 (fun c11 => ?_) (fun c11 => ?_)
      · refine q_iconst (v := 0) o_M_isSign_39 (by decide) ?_
        exact hJ _ (Eq.symm (if_neg c11))
      · refine q_iconst (v := 1) o_M_isSign_35 (by decide) ?_
        refine q_goto o_M_isSign_36 ?_
        exact hJ _ (Eq.symm (if_pos c11))

set_option maxRecDepth 20000 in
theorem v_M_isWord_0 {G : q_G} {d : Nat} {σ : q_S} {Q : Option Value → q_S → Prop} {p0 : Int32}  (hs : q_Sh σ) (h : ((¬ (q_I σ 159 8) = 0 → Q (some (.int 0)) σ) ∧ ((q_I σ 159 8) = 0 → (∃ k5, (q_I σ 159 7) = nI k5 ∧ k5 < 1002 ∧ ((¬ (q_I σ 161 k5) = 1 → Q (some (.int 0)) σ) ∧ ((q_I σ 161 k5) = 1 → (∃ k10, (q_I σ 159 7) = nI k10 ∧ k10 < 1002 ∧ (∃ k12, p0 = nI k12 ∧ k12 < 33 ∧ (narrow .boolean (.int (if (lg_cmp (q_L σ 163 k10) (q_L σ 164 k12)) = 0 then (1 : Int32) else (0 : Int32))) = .int (if (lg_cmp (q_L σ 163 k10) (q_L σ 164 k12)) = 0 then (1 : Int32) else (0 : Int32)) ∧ Q (some (.int (if (lg_cmp (q_L σ 163 k10) (q_L σ 164 k12)) = 0 then (1 : Int32) else (0 : Int32)))) σ))))))))) : q_At G X_M_isWord d 0 0 0 [some (.ref 159), some (.int p0)] [] σ Q := by
  refine q_aload_n o_M_isWord_0 rfl ?_
  refine q2_getI hs o_M_isWord_1 f_M_188 rfl ?_
  refine q_if_ne o_M_isWord_4 (fun c1 => ?_) (fun c1 => ?_)
  · have h2 := h.1 c1
    refine q_iconst (v := 0) o_M_isWord_43 (by decide) ?_
    exact q_zre o_M_isWord_44 rfl rfl h2
  · have h3 := h.2 c1
    refine q_aload_n o_M_isWord_7 rfl ?_
    refine q2_getR hs o_M_isWord_8 f_M_24 rfl (fz_159_4 hs) ?_
    refine q_aload_n o_M_isWord_11 rfl ?_
    refine q2_getI hs o_M_isWord_12 f_M_185 rfl ?_
    obtain ⟨k5, eh4, bh4, h4⟩ := h3
    refine q2_iald hs o_M_isWord_15 rfl eh4 bh4 (by decide) ?_
    refine q_iconst (v := 1) o_M_isWord_16 (by decide) ?_
    refine q_icmp_ne o_M_isWord_17 (fun c6 => ?_) (fun c6 => ?_)
    · have h7 := h4.1 c6
      refine q_iconst (v := 0) o_M_isWord_43 (by decide) ?_
      exact q_zre o_M_isWord_44 rfl rfl h7
    · have h8 := h4.2 c6
      refine q_aload_n o_M_isWord_20 rfl ?_
      refine q2_getR hs o_M_isWord_21 f_M_30 rfl (fz_159_6 hs) ?_
      refine q_aload_n o_M_isWord_24 rfl ?_
      refine q2_getI hs o_M_isWord_25 f_M_185 rfl ?_
      obtain ⟨k10, eh9, bh9, h9⟩ := h8
      refine q2_lald hs o_M_isWord_28 rfl eh9 bh9 (by decide) ?_
      refine q_aload_n o_M_isWord_29 rfl ?_
      refine q2_getR hs o_M_isWord_30 f_M_100 rfl (fz_159_9 hs) ?_
      refine q_iload_n o_M_isWord_33 rfl ?_
      obtain ⟨k12, eh11, bh11, h11⟩ := h9
      refine q2_lald hs o_M_isWord_34 rfl eh11 bh11 (by decide) ?_
      refine q_lcmp o_M_isWord_35 ?_
      have hJ : ∀ vJ : Int32, vJ = (if (lg_cmp (q_L σ 163 k10) (q_L σ 164 k12)) = 0 then (1 : Int32) else (0 : Int32)) → q_At G X_M_isWord d 0 0 44 [some (.ref 159), some (.int p0)] [.int vJ] σ Q := by
        intro vJ eJ
        rw [eJ]
        clear eJ vJ
        exact q_zre o_M_isWord_44 rfl h11.1 h11.2
      refine q_if_ne o_M_isWord_36 (fun c13 => ?_) (fun c13 => ?_)
      · refine q_iconst (v := 0) o_M_isWord_43 (by decide) ?_
        exact hJ _ (Eq.symm (if_neg c13))
      · refine q_iconst (v := 1) o_M_isWord_39 (by decide) ?_
        refine q_goto o_M_isWord_40 ?_
        exact hJ _ (Eq.symm (if_pos c13))

set_option maxRecDepth 20000 in
theorem v_M_takeSign_0 {G : q_G} {d : Nat} {σ : q_S} {Q : Option Value → q_S → Prop} {p0 : Int32}  (hs : q_Sh σ) (h : q_Call G d 0 0 X_M_isSign [.ref 159, .int p0] σ (q_ri (fun x4 σ2 => ((x4 = 0 → q_Call G d 0 0 X_M_wrong [.ref 159, .int 1] σ2 (q_rv (fun σ8 => Q none σ8))) ∧ (¬ x4 = 0 → Q none (q_setI σ2 159 7 ((q_I σ2 159 7) + 1))))))) : q_At G X_M_takeSign (d + 1) 0 0 0 [some (.ref 159), some (.int p0)] [] σ Q := by
  refine q_aload_n o_M_takeSign_0 rfl ?_
  refine q_iload_n o_M_takeSign_1 rfl ?_
  refine q2_callVi _ (a := 159) (As := [.int p0]) (st := []) hs o_M_takeSign_2 k_M_191 rfl rfl (Nat.le_of_ble_eq_true rfl) h (fun x4 σ2 hs3 h1 => ?_)
  refine q_if_eq o_M_takeSign_5 (fun c5 => ?_) (fun c5 => ?_)
  · have h6 := h1.1 c5
    refine q_aload_n o_M_takeSign_21 rfl ?_
    refine q_iconst (v := 1) o_M_takeSign_22 (by decide) ?_
    refine q2_callVv _ (a := 159) (As := [.int 1]) (st := []) hs3 o_M_takeSign_23 k_M_194 rfl rfl (Nat.le_of_ble_eq_true rfl) h6 (fun σ8 hs9 h7 => ?_)
    exact q_vre o_M_takeSign_26 rfl h7
  · have h10 := h1.2 c5
    refine q_aload_n o_M_takeSign_8 rfl ?_
    refine q_dup o_M_takeSign_9 rfl ?_
    refine q2_getI hs3 o_M_takeSign_10 f_M_185 rfl ?_
    refine q_iconst (v := 1) o_M_takeSign_13 (by decide) ?_
    refine q_iadd o_M_takeSign_14 ?_
    refine q2_putI hs3 o_M_takeSign_15 fp_M_185 rfl rfl rfl ?_
    refine q_goto o_M_takeSign_18 ?_
    exact q_vre o_M_takeSign_26 rfl h10

set_option maxRecDepth 20000 in
theorem v_M_hasSign_0 {G : q_G} {d : Nat} {σ : q_S} {Q : Option Value → q_S → Prop} {p0 : Int32}  (hs : q_Sh σ) (h : q_Call G d 0 0 X_M_isSign [.ref 159, .int p0] σ (q_ri (fun x4 σ2 => (narrow .boolean (.int x4) = .int x4 ∧ Q (some (.int x4)) (q_setI σ2 159 7 ((q_I σ2 159 7) + (if x4 = 0 then (0 : Int32) else (1 : Int32)))))))) : q_At G X_M_hasSign (d + 1) 0 0 0 [some (.ref 159), some (.int p0), none] [] σ Q := by
  refine q_aload_n o_M_hasSign_0 rfl ?_
  refine q_iload_n o_M_hasSign_1 rfl ?_
  refine q2_callVi _ (a := 159) (As := [.int p0]) (st := []) hs o_M_hasSign_2 k_M_191 rfl rfl (Nat.le_of_ble_eq_true rfl) h (fun x4 σ2 hs3 h1 => ?_)
  refine q2_istn (ls' := [some (.ref 159), some (.int p0), some (.int x4)]) o_M_hasSign_5 (Nat.le_of_ble_eq_true rfl) rfl ?_
  refine q_aload_n o_M_hasSign_6 rfl ?_
  refine q_dup o_M_hasSign_7 rfl ?_
  refine q2_getI hs3 o_M_hasSign_8 f_M_185 rfl ?_
  refine q_iload_n o_M_hasSign_11 rfl ?_
  have hJ : ∀ vJ : Int32, vJ = (if x4 = 0 then (0 : Int32) else (1 : Int32)) → q_At G X_M_hasSign (d + 1) 0 0 20 [some (.ref 159), some (.int p0), some (.int x4)] [.int vJ, .int (q_I σ2 159 7), .ref 159] σ2 Q := by
    intro vJ eJ
    rw [eJ]
    clear eJ vJ
    refine q_iadd o_M_hasSign_20 ?_
    refine q2_putI hs3 o_M_hasSign_21 fp_M_185 rfl rfl rfl ?_
    refine q_iload_n o_M_hasSign_24 rfl ?_
    exact q_zre o_M_hasSign_25 rfl h1.1 h1.2
  refine q_if_eq o_M_hasSign_12 (fun c5 => ?_) (fun c5 => ?_)
  · refine q_iconst (v := 0) o_M_hasSign_19 (by decide) ?_
    exact hJ _ (Eq.symm (if_pos c5))
  · refine q_iconst (v := 1) o_M_hasSign_15 (by decide) ?_
    refine q_goto o_M_hasSign_16 ?_
    exact hJ _ (Eq.symm (if_neg c5))

set_option maxRecDepth 20000 in
theorem v_M_hasWord_0 {G : q_G} {d : Nat} {σ : q_S} {Q : Option Value → q_S → Prop} {p0 : Int32}  (hs : q_Sh σ) (h : q_Call G d 0 0 X_M_isWord [.ref 159, .int p0] σ (q_ri (fun x4 σ2 => (narrow .boolean (.int x4) = .int x4 ∧ Q (some (.int x4)) (q_setI σ2 159 7 ((q_I σ2 159 7) + (if x4 = 0 then (0 : Int32) else (1 : Int32)))))))) : q_At G X_M_hasWord (d + 1) 0 0 0 [some (.ref 159), some (.int p0), none] [] σ Q := by
  refine q_aload_n o_M_hasWord_0 rfl ?_
  refine q_iload_n o_M_hasWord_1 rfl ?_
  refine q2_callVi _ (a := 159) (As := [.int p0]) (st := []) hs o_M_hasWord_2 k_M_197 rfl rfl (Nat.le_of_ble_eq_true rfl) h (fun x4 σ2 hs3 h1 => ?_)
  refine q2_istn (ls' := [some (.ref 159), some (.int p0), some (.int x4)]) o_M_hasWord_5 (Nat.le_of_ble_eq_true rfl) rfl ?_
  refine q_aload_n o_M_hasWord_6 rfl ?_
  refine q_dup o_M_hasWord_7 rfl ?_
  refine q2_getI hs3 o_M_hasWord_8 f_M_185 rfl ?_
  refine q_iload_n o_M_hasWord_11 rfl ?_
  have hJ : ∀ vJ : Int32, vJ = (if x4 = 0 then (0 : Int32) else (1 : Int32)) → q_At G X_M_hasWord (d + 1) 0 0 20 [some (.ref 159), some (.int p0), some (.int x4)] [.int vJ, .int (q_I σ2 159 7), .ref 159] σ2 Q := by
    intro vJ eJ
    rw [eJ]
    clear eJ vJ
    refine q_iadd o_M_hasWord_20 ?_
    refine q2_putI hs3 o_M_hasWord_21 fp_M_185 rfl rfl rfl ?_
    refine q_iload_n o_M_hasWord_24 rfl ?_
    exact q_zre o_M_hasWord_25 rfl h1.1 h1.2
  refine q_if_eq o_M_hasWord_12 (fun c5 => ?_) (fun c5 => ?_)
  · refine q_iconst (v := 0) o_M_hasWord_19 (by decide) ?_
    exact hJ _ (Eq.symm (if_pos c5))
  · refine q_iconst (v := 1) o_M_hasWord_15 (by decide) ?_
    refine q_goto o_M_hasWord_16 ?_
    exact hJ _ (Eq.symm (if_neg c5))

set_option maxRecDepth 20000 in
theorem v_M_takeWord_0 {G : q_G} {d : Nat} {σ : q_S} {Q : Option Value → q_S → Prop} {p0 : Int32}  (hs : q_Sh σ) (h : q_Call G d 0 0 X_M_hasWord [.ref 159, .int p0] σ (q_ri (fun x4 σ2 => ((¬ x4 = 0 → Q none σ2) ∧ (x4 = 0 → q_Call G d 0 0 X_M_wrong [.ref 159, .int 1] σ2 (q_rv (fun σ9 => Q none σ9))))))) : q_At G X_M_takeWord (d + 1) 0 0 0 [some (.ref 159), some (.int p0)] [] σ Q := by
  refine q_aload_n o_M_takeWord_0 rfl ?_
  refine q_iload_n o_M_takeWord_1 rfl ?_
  refine q2_callVi _ (a := 159) (As := [.int p0]) (st := []) hs o_M_takeWord_2 k_M_200 rfl rfl (Nat.le_of_ble_eq_true rfl) h (fun x4 σ2 hs3 h1 => ?_)
  refine q_if_ne o_M_takeWord_5 (fun c5 => ?_) (fun c5 => ?_)
  · have h6 := h1.1 c5
    exact q_vre o_M_takeWord_13 rfl h6
  · have h7 := h1.2 c5
    refine q_aload_n o_M_takeWord_8 rfl ?_
    refine q_iconst (v := 1) o_M_takeWord_9 (by decide) ?_
    refine q2_callVv _ (a := 159) (As := [.int 1]) (st := []) hs3 o_M_takeWord_10 k_M_194 rfl rfl (Nat.le_of_ble_eq_true rfl) h7 (fun σ9 hs10 h8 => ?_)
    exact q_vre o_M_takeWord_13 rfl h8

set_option maxRecDepth 20000 in
theorem v_M_within_0 {G : q_G} {d : Nat} {σ : q_S} {Q : Option Value → q_S → Prop} {p0 : Int32} {p1 : Int32} {p2 : Int32}  (hs : q_Sh σ) (h : (narrow .boolean (.int (if p0 < p1 then (0 : Int32) else (if p2 < p0 then (0 : Int32) else (1 : Int32)))) = .int (if p0 < p1 then (0 : Int32) else (if p2 < p0 then (0 : Int32) else (1 : Int32))) ∧ Q (some (.int (if p0 < p1 then (0 : Int32) else (if p2 < p0 then (0 : Int32) else (1 : Int32))))) σ)) : q_At G X_M_within d 0 0 0 [some (.int p0), some (.int p1), some (.int p2)] [] σ Q := by
  refine q_iload_n o_M_within_0 rfl ?_
  refine q_iload_n o_M_within_1 rfl ?_
  have hJ : ∀ vJ : Int32, vJ = (if p0 < p1 then (0 : Int32) else (if p2 < p0 then (0 : Int32) else (1 : Int32))) → q_At G X_M_within d 0 0 15 [some (.int p0), some (.int p1), some (.int p2)] [.int vJ] σ Q := by
    intro vJ eJ
    rw [eJ]
    clear eJ vJ
    exact q_zre o_M_within_15 rfl h.1 h.2
  refine q_icmp_lt o_M_within_2 (fun c1 => ?_) (fun c1 => ?_)
  · refine q_iconst (v := 0) o_M_within_14 (by decide) ?_
    exact hJ _ (Eq.symm (if_pos c1))
  · refine q_iload_n o_M_within_5 rfl ?_
    refine q_iload_n o_M_within_6 rfl ?_
    refine q_icmp_gt o_M_within_7 (fun c2 => ?_) (fun c2 => ?_)
    · refine q_iconst (v := 0) o_M_within_14 (by decide) ?_
      exact hJ _ (Eq.symm ((if_neg c1).trans (if_pos c2)))
    · refine q_iconst (v := 1) o_M_within_10 (by decide) ?_
      refine q_goto o_M_within_11 ?_
      exact hJ _ (Eq.symm ((if_neg c1).trans (if_neg c2)))

set_option maxRecDepth 20000 in
theorem v_M_standsAsAlways_0 {G : q_G} {d : Nat} {σ : q_S} {Q : Option Value → q_S → Prop} {p0 : Int32}  (hs : q_Sh σ) (h : q_At G X_M_standsAsAlways d 0 0 2 [some (.ref 159), some (.int p0), some (.int 0)] [] σ Q) : q_At G X_M_standsAsAlways d 0 0 0 [some (.ref 159), some (.int p0), none] [] σ Q := by
  refine q_iconst (v := 0) o_M_standsAsAlways_0 (by decide) ?_
  refine q2_istn (ls' := [some (.ref 159), some (.int p0), some (.int 0)]) o_M_standsAsAlways_1 (Nat.le_of_ble_eq_true rfl) rfl ?_
  exact h

set_option maxRecDepth 20000 in
theorem v_M_standsAsAlways_2 {G : q_G} {d : Nat} {σ : q_S} {Q : Option Value → q_S → Prop} {p0 : Int32} {l2 : Int32}  (hs : q_Sh σ) (h : ((200 ≤ l2 → q_At G X_M_standsAsAlways d 0 0 26 [some (.ref 159), some (.int p0), some (.int 0)] [] σ Q) ∧ (¬ 200 ≤ l2 → (∃ k5, (p0 + l2) = nI k5 ∧ k5 < 400 ∧ q_At G X_M_standsAsAlways d 0 0 2 [some (.ref 159), some (.int p0), some (.int (l2 + 1))] [] (q_setI σ 165 k5 0) Q)))) : q_At G X_M_standsAsAlways d 0 0 2 [some (.ref 159), some (.int p0), some (.int l2)] [] σ Q := by
  refine q_iload_n o_M_standsAsAlways_2 rfl ?_
  refine q_sipush (v := 200) o_M_standsAsAlways_3 (by decide) ?_
  refine q_icmp_ge o_M_standsAsAlways_6 (fun c1 => ?_) (fun c1 => ?_)
  · have h2 := h.1 c1
    refine q_iconst (v := 0) o_M_standsAsAlways_24 (by decide) ?_
    refine q2_istn (ls' := [some (.ref 159), some (.int p0), some (.int 0)]) o_M_standsAsAlways_25 (Nat.le_of_ble_eq_true rfl) rfl ?_
    exact h2
  · have h3 := h.2 c1
    refine q_aload_n o_M_standsAsAlways_9 rfl ?_
    refine q2_getR hs o_M_standsAsAlways_10 f_M_103 rfl (fz_159_10 hs) ?_
    refine q_iload_n o_M_standsAsAlways_13 rfl ?_
    refine q_iload_n o_M_standsAsAlways_14 rfl ?_
    refine q_iadd o_M_standsAsAlways_15 ?_
    refine q_iconst (v := 0) o_M_standsAsAlways_16 (by decide) ?_
    obtain ⟨k5, eh4, bh4, h4⟩ := h3
    refine q2_iast hs o_M_standsAsAlways_17 rfl eh4 bh4 (by decide) ?_
    refine q2_inc (v := (l2 + 1)) (ls' := [some (.ref 159), some (.int p0), some (.int (l2 + 1))]) o_M_standsAsAlways_18 rfl rfl (Nat.le_of_ble_eq_true rfl) rfl ?_
    refine q_goto o_M_standsAsAlways_21 ?_
    exact h4

set_option maxRecDepth 20000 in
theorem v_M_standsAsAlways_26 {G : q_G} {d : Nat} {σ : q_S} {Q : Option Value → q_S → Prop} {p0 : Int32} {l2 : Int32}  (hs : q_Sh σ) (h : ((3 ≤ l2 → Q none σ) ∧ (¬ 3 ≤ l2 → (∃ k5, ((p0 + 5) + l2) = nI k5 ∧ k5 < 400 ∧ q_At G X_M_standsAsAlways d 0 0 26 [some (.ref 159), some (.int p0), some (.int (l2 + 1))] [] (q_setI σ 165 k5 (-1)) Q)))) : q_At G X_M_standsAsAlways d 0 0 26 [some (.ref 159), some (.int p0), some (.int l2)] [] σ Q := by
  refine q_iload_n o_M_standsAsAlways_26 rfl ?_
  refine q_iconst (v := 3) o_M_standsAsAlways_27 (by decide) ?_
  refine q_icmp_ge o_M_standsAsAlways_28 (fun c1 => ?_) (fun c1 => ?_)
  · have h2 := h.1 c1
    exact q_vre o_M_standsAsAlways_48 rfl h2
  · have h3 := h.2 c1
    refine q_aload_n o_M_standsAsAlways_31 rfl ?_
    refine q2_getR hs o_M_standsAsAlways_32 f_M_103 rfl (fz_159_10 hs) ?_
    refine q_iload_n o_M_standsAsAlways_35 rfl ?_
    refine q_iconst (v := 5) o_M_standsAsAlways_36 (by decide) ?_
    refine q_iadd o_M_standsAsAlways_37 ?_
    refine q_iload_n o_M_standsAsAlways_38 rfl ?_
    refine q_iadd o_M_standsAsAlways_39 ?_
    refine q_iconst (v := (-1)) o_M_standsAsAlways_40 (by decide) ?_
    obtain ⟨k5, eh4, bh4, h4⟩ := h3
    refine q2_iast hs o_M_standsAsAlways_41 rfl eh4 bh4 (by decide) ?_
    refine q2_inc (v := (l2 + 1)) (ls' := [some (.ref 159), some (.int p0), some (.int (l2 + 1))]) o_M_standsAsAlways_42 rfl rfl (Nat.le_of_ble_eq_true rfl) rfl ?_
    refine q_goto o_M_standsAsAlways_45 ?_
    exact h4

set_option maxRecDepth 20000 in
theorem v_M_takeNumber_0 {G : q_G} {d : Nat} {σ : q_S} {Q : Option Value → q_S → Prop} {p0 : Int32} {p1 : Int32}  (hs : q_Sh σ) (h : ((¬ (q_I σ 159 8) = 0 → ((¬ (q_I σ 159 8) = 0 → (((q_I σ 159 8) ≤ 0 → (∃ k8, ((q_I (q_setI σ 159 7 ((q_I σ 159 7) + 1)) 159 7) - 1) = nI k8 ∧ k8 < 1002 ∧ Q (some (.int ((q_L (q_setI σ 159 7 ((q_I σ 159 7) + 1)) 163 k8).toInt32))) (q_setI σ 159 7 ((q_I σ 159 7) + 1)))) ∧ (¬ (q_I σ 159 8) ≤ 0 → Q (some (.int 0)) σ))) ∧ ((q_I σ 159 8) = 0 → (∃ k12, (q_I σ 159 7) = nI k12 ∧ k12 < 1002 ∧ (((lg_cmp (q_L σ 163 k12) p0.toInt64) < 0 → q_Call G d 0 0 X_M_wrong [.ref 159, .int 4] σ (q_rv (fun σ16 => (((q_I σ16 159 8) ≤ 0 → (∃ k21, ((q_I (q_setI σ16 159 7 ((q_I σ16 159 7) + 1)) 159 7) - 1) = nI k21 ∧ k21 < 1002 ∧ Q (some (.int ((q_L (q_setI σ16 159 7 ((q_I σ16 159 7) + 1)) 163 k21).toInt32))) (q_setI σ16 159 7 ((q_I σ16 159 7) + 1)))) ∧ (¬ (q_I σ16 159 8) ≤ 0 → Q (some (.int 0)) σ16))))) ∧ (¬ (lg_cmp (q_L σ 163 k12) p0.toInt64) < 0 → (∃ k25, (q_I σ 159 7) = nI k25 ∧ k25 < 1002 ∧ (((lg_cmp (q_L σ 163 k25) p1.toInt64) ≤ 0 → (((q_I σ 159 8) ≤ 0 → (∃ k31, ((q_I (q_setI σ 159 7 ((q_I σ 159 7) + 1)) 159 7) - 1) = nI k31 ∧ k31 < 1002 ∧ Q (some (.int ((q_L (q_setI σ 159 7 ((q_I σ 159 7) + 1)) 163 k31).toInt32))) (q_setI σ 159 7 ((q_I σ 159 7) + 1)))) ∧ (¬ (q_I σ 159 8) ≤ 0 → Q (some (.int 0)) σ))) ∧ (¬ (lg_cmp (q_L σ 163 k25) p1.toInt64) ≤ 0 → q_Call G d 0 0 X_M_wrong [.ref 159, .int 4] σ (q_rv (fun σ35 => (((q_I σ35 159 8) ≤ 0 → (∃ k40, ((q_I (q_setI σ35 159 7 ((q_I σ35 159 7) + 1)) 159 7) - 1) = nI k40 ∧ k40 < 1002 ∧ Q (some (.int ((q_L (q_setI σ35 159 7 ((q_I σ35 159 7) + 1)) 163 k40).toInt32))) (q_setI σ35 159 7 ((q_I σ35 159 7) + 1)))) ∧ (¬ (q_I σ35 159 8) ≤ 0 → Q (some (.int 0)) σ35))))))))))))) ∧ ((q_I σ 159 8) = 0 → (∃ k44, (q_I σ 159 7) = nI k44 ∧ k44 < 1002 ∧ (((q_I σ 161 k44) = 2 → ((¬ (q_I σ 159 8) = 0 → (((q_I σ 159 8) ≤ 0 → (∃ k52, ((q_I (q_setI σ 159 7 ((q_I σ 159 7) + 1)) 159 7) - 1) = nI k52 ∧ k52 < 1002 ∧ Q (some (.int ((q_L (q_setI σ 159 7 ((q_I σ 159 7) + 1)) 163 k52).toInt32))) (q_setI σ 159 7 ((q_I σ 159 7) + 1)))) ∧ (¬ (q_I σ 159 8) ≤ 0 → Q (some (.int 0)) σ))) ∧ ((q_I σ 159 8) = 0 → (∃ k56, (q_I σ 159 7) = nI k56 ∧ k56 < 1002 ∧ (((lg_cmp (q_L σ 163 k56) p0.toInt64) < 0 → q_Call G d 0 0 X_M_wrong [.ref 159, .int 4] σ (q_rv (fun σ60 => (((q_I σ60 159 8) ≤ 0 → (∃ k65, ((q_I (q_setI σ60 159 7 ((q_I σ60 159 7) + 1)) 159 7) - 1) = nI k65 ∧ k65 < 1002 ∧ Q (some (.int ((q_L (q_setI σ60 159 7 ((q_I σ60 159 7) + 1)) 163 k65).toInt32))) (q_setI σ60 159 7 ((q_I σ60 159 7) + 1)))) ∧ (¬ (q_I σ60 159 8) ≤ 0 → Q (some (.int 0)) σ60))))) ∧ (¬ (lg_cmp (q_L σ 163 k56) p0.toInt64) < 0 → (∃ k69, (q_I σ 159 7) = nI k69 ∧ k69 < 1002 ∧ (((lg_cmp (q_L σ 163 k69) p1.toInt64) ≤ 0 → (((q_I σ 159 8) ≤ 0 → (∃ k75, ((q_I (q_setI σ 159 7 ((q_I σ 159 7) + 1)) 159 7) - 1) = nI k75 ∧ k75 < 1002 ∧ Q (some (.int ((q_L (q_setI σ 159 7 ((q_I σ 159 7) + 1)) 163 k75).toInt32))) (q_setI σ 159 7 ((q_I σ 159 7) + 1)))) ∧ (¬ (q_I σ 159 8) ≤ 0 → Q (some (.int 0)) σ))) ∧ (¬ (lg_cmp (q_L σ 163 k69) p1.toInt64) ≤ 0 → q_Call G d 0 0 X_M_wrong [.ref 159, .int 4] σ (q_rv (fun σ79 => (((q_I σ79 159 8) ≤ 0 → (∃ k84, ((q_I (q_setI σ79 159 7 ((q_I σ79 159 7) + 1)) 159 7) - 1) = nI k84 ∧ k84 < 1002 ∧ Q (some (.int ((q_L (q_setI σ79 159 7 ((q_I σ79 159 7) + 1)) 163 k84).toInt32))) (q_setI σ79 159 7 ((q_I σ79 159 7) + 1)))) ∧ (¬ (q_I σ79 159 8) ≤ 0 → Q (some (.int 0)) σ79))))))))))))) ∧ (¬ (q_I σ 161 k44) = 2 → q_Call G d 0 0 X_M_wrong [.ref 159, .int 1] σ (q_rv (fun σ88 => (((q_I σ88 159 8) ≤ 0 → (∃ k93, ((q_I (q_setI σ88 159 7 ((q_I σ88 159 7) + 1)) 159 7) - 1) = nI k93 ∧ k93 < 1002 ∧ Q (some (.int ((q_L (q_setI σ88 159 7 ((q_I σ88 159 7) + 1)) 163 k93).toInt32))) (q_setI σ88 159 7 ((q_I σ88 159 7) + 1)))) ∧ (¬ (q_I σ88 159 8) ≤ 0 → Q (some (.int 0)) σ88)))))))))) : q_At G X_M_takeNumber (d + 1) 0 0 0 [some (.ref 159), some (.int p0), some (.int p1)] [] σ Q := by
  refine q_aload_n o_M_takeNumber_0 rfl ?_
  refine q2_getI hs o_M_takeNumber_1 f_M_188 rfl ?_
  refine q_if_ne o_M_takeNumber_4 (fun c1 => ?_) (fun c1 => ?_)
  · have h2 := h.1 c1
    refine q_aload_n o_M_takeNumber_28 rfl ?_
    refine q2_getI hs o_M_takeNumber_29 f_M_188 rfl ?_
    refine q_if_ne o_M_takeNumber_32 (fun c3 => ?_) (fun c3 => ?_)
    · have h4 := h2.1 c3
      refine q_aload_n o_M_takeNumber_70 rfl ?_
      refine q2_getI hs o_M_takeNumber_71 f_M_188 rfl ?_
      refine q_if_le o_M_takeNumber_74 (fun c5 => ?_) (fun c5 => ?_)
      · have h6 := h4.1 c5
        refine q_aload_n o_M_takeNumber_79 rfl ?_
        refine q_dup o_M_takeNumber_80 rfl ?_
        refine q2_getI hs o_M_takeNumber_81 f_M_185 rfl ?_
        refine q_iconst (v := 1) o_M_takeNumber_84 (by decide) ?_
        refine q_iadd o_M_takeNumber_85 ?_
        refine q2_putI hs o_M_takeNumber_86 fp_M_185 rfl rfl rfl ?_
        refine q_aload_n o_M_takeNumber_89 rfl ?_
        refine q2_getR hs o_M_takeNumber_90 f_M_30 rfl (fz_159_6 hs) ?_
        refine q_aload_n o_M_takeNumber_93 rfl ?_
        refine q2_getI hs o_M_takeNumber_94 f_M_185 rfl ?_
        refine q_iconst (v := 1) o_M_takeNumber_97 (by decide) ?_
        refine q_isub o_M_takeNumber_98 ?_
        obtain ⟨k8, eh7, bh7, h7⟩ := h6
        refine q2_lald hs o_M_takeNumber_99 rfl eh7 bh7 (by decide) ?_
        refine q_l2i o_M_takeNumber_100 ?_
        exact q_ire o_M_takeNumber_101 rfl h7
      · have h9 := h4.2 c5
        refine q_iconst (v := 0) o_M_takeNumber_77 (by decide) ?_
        exact q_ire o_M_takeNumber_78 rfl h9
    · have h10 := h2.2 c3
      refine q_aload_n o_M_takeNumber_35 rfl ?_
      refine q2_getR hs o_M_takeNumber_36 f_M_30 rfl (fz_159_6 hs) ?_
      refine q_aload_n o_M_takeNumber_39 rfl ?_
      refine q2_getI hs o_M_takeNumber_40 f_M_185 rfl ?_
      obtain ⟨k12, eh11, bh11, h11⟩ := h10
      refine q2_lald hs o_M_takeNumber_43 rfl eh11 bh11 (by decide) ?_
      refine q_iload_n o_M_takeNumber_44 rfl ?_
      refine q_i2l o_M_takeNumber_45 ?_
      refine q_lcmp o_M_takeNumber_46 ?_
      refine q_if_lt o_M_takeNumber_47 (fun c13 => ?_) (fun c13 => ?_)
      · have h14 := h11.1 c13
        refine q_aload_n o_M_takeNumber_65 rfl ?_
        refine q_iconst (v := 4) o_M_takeNumber_66 (by decide) ?_
        refine q2_callVv _ (a := 159) (As := [.int 4]) (st := []) hs o_M_takeNumber_67 k_M_194 rfl rfl (Nat.le_of_ble_eq_true rfl) h14 (fun σ16 hs17 h15 => ?_)
        refine q_aload_n o_M_takeNumber_70 rfl ?_
        refine q2_getI hs17 o_M_takeNumber_71 f_M_188 rfl ?_
        refine q_if_le o_M_takeNumber_74 (fun c18 => ?_) (fun c18 => ?_)
        · have h19 := h15.1 c18
          refine q_aload_n o_M_takeNumber_79 rfl ?_
          refine q_dup o_M_takeNumber_80 rfl ?_
          refine q2_getI hs17 o_M_takeNumber_81 f_M_185 rfl ?_
          refine q_iconst (v := 1) o_M_takeNumber_84 (by decide) ?_
          refine q_iadd o_M_takeNumber_85 ?_
          refine q2_putI hs17 o_M_takeNumber_86 fp_M_185 rfl rfl rfl ?_
          refine q_aload_n o_M_takeNumber_89 rfl ?_
          refine q2_getR hs17 o_M_takeNumber_90 f_M_30 rfl (fz_159_6 hs17) ?_
          refine q_aload_n o_M_takeNumber_93 rfl ?_
          refine q2_getI hs17 o_M_takeNumber_94 f_M_185 rfl ?_
          refine q_iconst (v := 1) o_M_takeNumber_97 (by decide) ?_
          refine q_isub o_M_takeNumber_98 ?_
          obtain ⟨k21, eh20, bh20, h20⟩ := h19
          refine q2_lald hs17 o_M_takeNumber_99 rfl eh20 bh20 (by decide) ?_
          refine q_l2i o_M_takeNumber_100 ?_
          exact q_ire o_M_takeNumber_101 rfl h20
        · have h22 := h15.2 c18
          refine q_iconst (v := 0) o_M_takeNumber_77 (by decide) ?_
          exact q_ire o_M_takeNumber_78 rfl h22
      · have h23 := h11.2 c13
        refine q_aload_n o_M_takeNumber_50 rfl ?_
        refine q2_getR hs o_M_takeNumber_51 f_M_30 rfl (fz_159_6 hs) ?_
        refine q_aload_n o_M_takeNumber_54 rfl ?_
        refine q2_getI hs o_M_takeNumber_55 f_M_185 rfl ?_
        obtain ⟨k25, eh24, bh24, h24⟩ := h23
        refine q2_lald hs o_M_takeNumber_58 rfl eh24 bh24 (by decide) ?_
        refine q_iload_n o_M_takeNumber_59 rfl ?_
        refine q_i2l o_M_takeNumber_60 ?_
        refine q_lcmp o_M_takeNumber_61 ?_
        refine q_if_le o_M_takeNumber_62 (fun c26 => ?_) (fun c26 => ?_)
        · have h27 := h24.1 c26
          refine q_aload_n o_M_takeNumber_70 rfl ?_
          refine q2_getI hs o_M_takeNumber_71 f_M_188 rfl ?_
          refine q_if_le o_M_takeNumber_74 (fun c28 => ?_) (fun c28 => ?_)
          · have h29 := h27.1 c28
            refine q_aload_n o_M_takeNumber_79 rfl ?_
            refine q_dup o_M_takeNumber_80 rfl ?_
            refine q2_getI hs o_M_takeNumber_81 f_M_185 rfl ?_
            refine q_iconst (v := 1) o_M_takeNumber_84 (by decide) ?_
            refine q_iadd o_M_takeNumber_85 ?_
            refine q2_putI hs o_M_takeNumber_86 fp_M_185 rfl rfl rfl ?_
            refine q_aload_n o_M_takeNumber_89 rfl ?_
            refine q2_getR hs o_M_takeNumber_90 f_M_30 rfl (fz_159_6 hs) ?_
            refine q_aload_n o_M_takeNumber_93 rfl ?_
            refine q2_getI hs o_M_takeNumber_94 f_M_185 rfl ?_
            refine q_iconst (v := 1) o_M_takeNumber_97 (by decide) ?_
            refine q_isub o_M_takeNumber_98 ?_
            obtain ⟨k31, eh30, bh30, h30⟩ := h29
            refine q2_lald hs o_M_takeNumber_99 rfl eh30 bh30 (by decide) ?_
            refine q_l2i o_M_takeNumber_100 ?_
            exact q_ire o_M_takeNumber_101 rfl h30
          · have h32 := h27.2 c28
            refine q_iconst (v := 0) o_M_takeNumber_77 (by decide) ?_
            exact q_ire o_M_takeNumber_78 rfl h32
        · have h33 := h24.2 c26
          refine q_aload_n o_M_takeNumber_65 rfl ?_
          refine q_iconst (v := 4) o_M_takeNumber_66 (by decide) ?_
          refine q2_callVv _ (a := 159) (As := [.int 4]) (st := []) hs o_M_takeNumber_67 k_M_194 rfl rfl (Nat.le_of_ble_eq_true rfl) h33 (fun σ35 hs36 h34 => ?_)
          refine q_aload_n o_M_takeNumber_70 rfl ?_
          refine q2_getI hs36 o_M_takeNumber_71 f_M_188 rfl ?_
          refine q_if_le o_M_takeNumber_74 (fun c37 => ?_) (fun c37 => ?_)
          · have h38 := h34.1 c37
            refine q_aload_n o_M_takeNumber_79 rfl ?_
            refine q_dup o_M_takeNumber_80 rfl ?_
            refine q2_getI hs36 o_M_takeNumber_81 f_M_185 rfl ?_
            refine q_iconst (v := 1) o_M_takeNumber_84 (by decide) ?_
            refine q_iadd o_M_takeNumber_85 ?_
            refine q2_putI hs36 o_M_takeNumber_86 fp_M_185 rfl rfl rfl ?_
            refine q_aload_n o_M_takeNumber_89 rfl ?_
            refine q2_getR hs36 o_M_takeNumber_90 f_M_30 rfl (fz_159_6 hs36) ?_
            refine q_aload_n o_M_takeNumber_93 rfl ?_
            refine q2_getI hs36 o_M_takeNumber_94 f_M_185 rfl ?_
            refine q_iconst (v := 1) o_M_takeNumber_97 (by decide) ?_
            refine q_isub o_M_takeNumber_98 ?_
            obtain ⟨k40, eh39, bh39, h39⟩ := h38
            refine q2_lald hs36 o_M_takeNumber_99 rfl eh39 bh39 (by decide) ?_
            refine q_l2i o_M_takeNumber_100 ?_
            exact q_ire o_M_takeNumber_101 rfl h39
          · have h41 := h34.2 c37
            refine q_iconst (v := 0) o_M_takeNumber_77 (by decide) ?_
            exact q_ire o_M_takeNumber_78 rfl h41
  · have h42 := h.2 c1
    refine q_aload_n o_M_takeNumber_7 rfl ?_
    refine q2_getR hs o_M_takeNumber_8 f_M_24 rfl (fz_159_4 hs) ?_
    refine q_aload_n o_M_takeNumber_11 rfl ?_
    refine q2_getI hs o_M_takeNumber_12 f_M_185 rfl ?_
    obtain ⟨k44, eh43, bh43, h43⟩ := h42
    refine q2_iald hs o_M_takeNumber_15 rfl eh43 bh43 (by decide) ?_
    refine q_iconst (v := 2) o_M_takeNumber_16 (by decide) ?_
    refine q_icmp_eq o_M_takeNumber_17 (fun c45 => ?_) (fun c45 => ?_)
    · have h46 := h43.1 c45
      refine q_aload_n o_M_takeNumber_28 rfl ?_
      refine q2_getI hs o_M_takeNumber_29 f_M_188 rfl ?_
      refine q_if_ne o_M_takeNumber_32 (fun c47 => ?_) (fun c47 => ?_)
      · have h48 := h46.1 c47
        refine q_aload_n o_M_takeNumber_70 rfl ?_
        refine q2_getI hs o_M_takeNumber_71 f_M_188 rfl ?_
        refine q_if_le o_M_takeNumber_74 (fun c49 => ?_) (fun c49 => ?_)
        · have h50 := h48.1 c49
          refine q_aload_n o_M_takeNumber_79 rfl ?_
          refine q_dup o_M_takeNumber_80 rfl ?_
          refine q2_getI hs o_M_takeNumber_81 f_M_185 rfl ?_
          refine q_iconst (v := 1) o_M_takeNumber_84 (by decide) ?_
          refine q_iadd o_M_takeNumber_85 ?_
          refine q2_putI hs o_M_takeNumber_86 fp_M_185 rfl rfl rfl ?_
          refine q_aload_n o_M_takeNumber_89 rfl ?_
          refine q2_getR hs o_M_takeNumber_90 f_M_30 rfl (fz_159_6 hs) ?_
          refine q_aload_n o_M_takeNumber_93 rfl ?_
          refine q2_getI hs o_M_takeNumber_94 f_M_185 rfl ?_
          refine q_iconst (v := 1) o_M_takeNumber_97 (by decide) ?_
          refine q_isub o_M_takeNumber_98 ?_
          obtain ⟨k52, eh51, bh51, h51⟩ := h50
          refine q2_lald hs o_M_takeNumber_99 rfl eh51 bh51 (by decide) ?_
          refine q_l2i o_M_takeNumber_100 ?_
          exact q_ire o_M_takeNumber_101 rfl h51
        · have h53 := h48.2 c49
          refine q_iconst (v := 0) o_M_takeNumber_77 (by decide) ?_
          exact q_ire o_M_takeNumber_78 rfl h53
      · have h54 := h46.2 c47
        refine q_aload_n o_M_takeNumber_35 rfl ?_
        refine q2_getR hs o_M_takeNumber_36 f_M_30 rfl (fz_159_6 hs) ?_
        refine q_aload_n o_M_takeNumber_39 rfl ?_
        refine q2_getI hs o_M_takeNumber_40 f_M_185 rfl ?_
        obtain ⟨k56, eh55, bh55, h55⟩ := h54
        refine q2_lald hs o_M_takeNumber_43 rfl eh55 bh55 (by decide) ?_
        refine q_iload_n o_M_takeNumber_44 rfl ?_
        refine q_i2l o_M_takeNumber_45 ?_
        refine q_lcmp o_M_takeNumber_46 ?_
        refine q_if_lt o_M_takeNumber_47 (fun c57 => ?_) (fun c57 => ?_)
        · have h58 := h55.1 c57
          refine q_aload_n o_M_takeNumber_65 rfl ?_
          refine q_iconst (v := 4) o_M_takeNumber_66 (by decide) ?_
          refine q2_callVv _ (a := 159) (As := [.int 4]) (st := []) hs o_M_takeNumber_67 k_M_194 rfl rfl (Nat.le_of_ble_eq_true rfl) h58 (fun σ60 hs61 h59 => ?_)
          refine q_aload_n o_M_takeNumber_70 rfl ?_
          refine q2_getI hs61 o_M_takeNumber_71 f_M_188 rfl ?_
          refine q_if_le o_M_takeNumber_74 (fun c62 => ?_) (fun c62 => ?_)
          · have h63 := h59.1 c62
            refine q_aload_n o_M_takeNumber_79 rfl ?_
            refine q_dup o_M_takeNumber_80 rfl ?_
            refine q2_getI hs61 o_M_takeNumber_81 f_M_185 rfl ?_
            refine q_iconst (v := 1) o_M_takeNumber_84 (by decide) ?_
            refine q_iadd o_M_takeNumber_85 ?_
            refine q2_putI hs61 o_M_takeNumber_86 fp_M_185 rfl rfl rfl ?_
            refine q_aload_n o_M_takeNumber_89 rfl ?_
            refine q2_getR hs61 o_M_takeNumber_90 f_M_30 rfl (fz_159_6 hs61) ?_
            refine q_aload_n o_M_takeNumber_93 rfl ?_
            refine q2_getI hs61 o_M_takeNumber_94 f_M_185 rfl ?_
            refine q_iconst (v := 1) o_M_takeNumber_97 (by decide) ?_
            refine q_isub o_M_takeNumber_98 ?_
            obtain ⟨k65, eh64, bh64, h64⟩ := h63
            refine q2_lald hs61 o_M_takeNumber_99 rfl eh64 bh64 (by decide) ?_
            refine q_l2i o_M_takeNumber_100 ?_
            exact q_ire o_M_takeNumber_101 rfl h64
          · have h66 := h59.2 c62
            refine q_iconst (v := 0) o_M_takeNumber_77 (by decide) ?_
            exact q_ire o_M_takeNumber_78 rfl h66
        · have h67 := h55.2 c57
          refine q_aload_n o_M_takeNumber_50 rfl ?_
          refine q2_getR hs o_M_takeNumber_51 f_M_30 rfl (fz_159_6 hs) ?_
          refine q_aload_n o_M_takeNumber_54 rfl ?_
          refine q2_getI hs o_M_takeNumber_55 f_M_185 rfl ?_
          obtain ⟨k69, eh68, bh68, h68⟩ := h67
          refine q2_lald hs o_M_takeNumber_58 rfl eh68 bh68 (by decide) ?_
          refine q_iload_n o_M_takeNumber_59 rfl ?_
          refine q_i2l o_M_takeNumber_60 ?_
          refine q_lcmp o_M_takeNumber_61 ?_
          refine q_if_le o_M_takeNumber_62 (fun c70 => ?_) (fun c70 => ?_)
          · have h71 := h68.1 c70
            refine q_aload_n o_M_takeNumber_70 rfl ?_
            refine q2_getI hs o_M_takeNumber_71 f_M_188 rfl ?_
            refine q_if_le o_M_takeNumber_74 (fun c72 => ?_) (fun c72 => ?_)
            · have h73 := h71.1 c72
              refine q_aload_n o_M_takeNumber_79 rfl ?_
              refine q_dup o_M_takeNumber_80 rfl ?_
              refine q2_getI hs o_M_takeNumber_81 f_M_185 rfl ?_
              refine q_iconst (v := 1) o_M_takeNumber_84 (by decide) ?_
              refine q_iadd o_M_takeNumber_85 ?_
              refine q2_putI hs o_M_takeNumber_86 fp_M_185 rfl rfl rfl ?_
              refine q_aload_n o_M_takeNumber_89 rfl ?_
              refine q2_getR hs o_M_takeNumber_90 f_M_30 rfl (fz_159_6 hs) ?_
              refine q_aload_n o_M_takeNumber_93 rfl ?_
              refine q2_getI hs o_M_takeNumber_94 f_M_185 rfl ?_
              refine q_iconst (v := 1) o_M_takeNumber_97 (by decide) ?_
              refine q_isub o_M_takeNumber_98 ?_
              obtain ⟨k75, eh74, bh74, h74⟩ := h73
              refine q2_lald hs o_M_takeNumber_99 rfl eh74 bh74 (by decide) ?_
              refine q_l2i o_M_takeNumber_100 ?_
              exact q_ire o_M_takeNumber_101 rfl h74
            · have h76 := h71.2 c72
              refine q_iconst (v := 0) o_M_takeNumber_77 (by decide) ?_
              exact q_ire o_M_takeNumber_78 rfl h76
          · have h77 := h68.2 c70
            refine q_aload_n o_M_takeNumber_65 rfl ?_
            refine q_iconst (v := 4) o_M_takeNumber_66 (by decide) ?_
            refine q2_callVv _ (a := 159) (As := [.int 4]) (st := []) hs o_M_takeNumber_67 k_M_194 rfl rfl (Nat.le_of_ble_eq_true rfl) h77 (fun σ79 hs80 h78 => ?_)
            refine q_aload_n o_M_takeNumber_70 rfl ?_
            refine q2_getI hs80 o_M_takeNumber_71 f_M_188 rfl ?_
            refine q_if_le o_M_takeNumber_74 (fun c81 => ?_) (fun c81 => ?_)
            · have h82 := h78.1 c81
              refine q_aload_n o_M_takeNumber_79 rfl ?_
              refine q_dup o_M_takeNumber_80 rfl ?_
              refine q2_getI hs80 o_M_takeNumber_81 f_M_185 rfl ?_
              refine q_iconst (v := 1) o_M_takeNumber_84 (by decide) ?_
              refine q_iadd o_M_takeNumber_85 ?_
              refine q2_putI hs80 o_M_takeNumber_86 fp_M_185 rfl rfl rfl ?_
              refine q_aload_n o_M_takeNumber_89 rfl ?_
              refine q2_getR hs80 o_M_takeNumber_90 f_M_30 rfl (fz_159_6 hs80) ?_
              refine q_aload_n o_M_takeNumber_93 rfl ?_
              refine q2_getI hs80 o_M_takeNumber_94 f_M_185 rfl ?_
              refine q_iconst (v := 1) o_M_takeNumber_97 (by decide) ?_
              refine q_isub o_M_takeNumber_98 ?_
              obtain ⟨k84, eh83, bh83, h83⟩ := h82
              refine q2_lald hs80 o_M_takeNumber_99 rfl eh83 bh83 (by decide) ?_
              refine q_l2i o_M_takeNumber_100 ?_
              exact q_ire o_M_takeNumber_101 rfl h83
            · have h85 := h78.2 c81
              refine q_iconst (v := 0) o_M_takeNumber_77 (by decide) ?_
              exact q_ire o_M_takeNumber_78 rfl h85
    · have h86 := h43.2 c45
      refine q_aload_n o_M_takeNumber_20 rfl ?_
      refine q_iconst (v := 1) o_M_takeNumber_21 (by decide) ?_
      refine q2_callVv _ (a := 159) (As := [.int 1]) (st := []) hs o_M_takeNumber_22 k_M_194 rfl rfl (Nat.le_of_ble_eq_true rfl) h86 (fun σ88 hs89 h87 => ?_)
      refine q_goto o_M_takeNumber_25 ?_
      refine q_aload_n o_M_takeNumber_70 rfl ?_
      refine q2_getI hs89 o_M_takeNumber_71 f_M_188 rfl ?_
      refine q_if_le o_M_takeNumber_74 (fun c90 => ?_) (fun c90 => ?_)
      · have h91 := h87.1 c90
        refine q_aload_n o_M_takeNumber_79 rfl ?_
        refine q_dup o_M_takeNumber_80 rfl ?_
        refine q2_getI hs89 o_M_takeNumber_81 f_M_185 rfl ?_
        refine q_iconst (v := 1) o_M_takeNumber_84 (by decide) ?_
        refine q_iadd o_M_takeNumber_85 ?_
        refine q2_putI hs89 o_M_takeNumber_86 fp_M_185 rfl rfl rfl ?_
        refine q_aload_n o_M_takeNumber_89 rfl ?_
        refine q2_getR hs89 o_M_takeNumber_90 f_M_30 rfl (fz_159_6 hs89) ?_
        refine q_aload_n o_M_takeNumber_93 rfl ?_
        refine q2_getI hs89 o_M_takeNumber_94 f_M_185 rfl ?_
        refine q_iconst (v := 1) o_M_takeNumber_97 (by decide) ?_
        refine q_isub o_M_takeNumber_98 ?_
        obtain ⟨k93, eh92, bh92, h92⟩ := h91
        refine q2_lald hs89 o_M_takeNumber_99 rfl eh92 bh92 (by decide) ?_
        refine q_l2i o_M_takeNumber_100 ?_
        exact q_ire o_M_takeNumber_101 rfl h92
      · have h94 := h87.2 c90
        refine q_iconst (v := 0) o_M_takeNumber_77 (by decide) ?_
        exact q_ire o_M_takeNumber_78 rfl h94

set_option maxRecDepth 20000 in
theorem v_M_takeAfter_0 {G : q_G} {d : Nat} {σ : q_S} {Q : Option Value → q_S → Prop} {p0 : Int32} {p1 : Int32} {p2 : Int32}  (hs : q_Sh σ) (h : q_Call G d 0 0 X_M_takeWord [.ref 159, .int p0] σ (q_rv (fun σ2 => q_Call G d 0 0 X_M_takeNumber [.ref 159, .int p1, .int p2] σ2 (q_ri (fun x7 σ5 => Q (some (.int x7)) σ5))))) : q_At G X_M_takeAfter (d + 1) 0 0 0 [some (.ref 159), some (.int p0), some (.int p1), some (.int p2)] [] σ Q := by
  refine q_aload_n o_M_takeAfter_0 rfl ?_
  refine q_iload_n o_M_takeAfter_1 rfl ?_
  refine q2_callVv _ (a := 159) (As := [.int p0]) (st := []) hs o_M_takeAfter_2 k_M_203 rfl rfl (Nat.le_of_ble_eq_true rfl) h (fun σ2 hs3 h1 => ?_)
  refine q_aload_n o_M_takeAfter_5 rfl ?_
  refine q_iload_n o_M_takeAfter_6 rfl ?_
  refine q_iload_n o_M_takeAfter_7 rfl ?_
  refine q2_callVi _ (a := 159) (As := [.int p1, .int p2]) (st := []) hs3 o_M_takeAfter_8 k_M_206 rfl rfl (Nat.le_of_ble_eq_true rfl) h1 (fun x7 σ5 hs6 h4 => ?_)
  exact q_ire o_M_takeAfter_11 rfl h4

set_option maxRecDepth 20000 in
theorem v_M_wordHere_0 {G : q_G} {d : Nat} {σ : q_S} {Q : Option Value → q_S → Prop} {p0 : Int32} {p1 : Int32}  (hs : q_Sh σ) (h : q_At G X_M_wordHere (d + 1) 0 0 5 [some (.ref 159), some (.int p0), some (.int p1), some (.int (-1)), some (.int 0)] [] σ Q) : q_At G X_M_wordHere (d + 1) 0 0 0 [some (.ref 159), some (.int p0), some (.int p1), none, none] [] σ Q := by
  refine q_iconst (v := (-1)) o_M_wordHere_0 (by decide) ?_
  refine q2_istn (ls' := [some (.ref 159), some (.int p0), some (.int p1), some (.int (-1)), none]) o_M_wordHere_1 (Nat.le_of_ble_eq_true rfl) rfl ?_
  refine q_iconst (v := 0) o_M_wordHere_2 (by decide) ?_
  refine q2_ist (ls' := [some (.ref 159), some (.int p0), some (.int p1), some (.int (-1)), some (.int 0)]) o_M_wordHere_3 (Nat.le_of_ble_eq_true rfl) rfl ?_
  exact h

set_option maxRecDepth 20000 in
theorem v_M_wordHere_5 {G : q_G} {d : Nat} {σ : q_S} {Q : Option Value → q_S → Prop} {p0 : Int32} {p1 : Int32} {l3 : Int32} {l4 : Int32}  (hs : q_Sh σ) (h : ((p1 ≤ l4 → Q (some (.int l3)) σ) ∧ (¬ p1 ≤ l4 → q_Call G d 0 0 X_M_isWord [.ref 159, .int (p0 + l4)] σ (q_ri (fun x7 σ5 => q_At G X_M_wordHere (d + 1) 0 0 5 [some (.ref 159), some (.int p0), some (.int p1), some (.int (if x7 = 0 then l3 else l4)), some (.int (l4 + 1))] [] σ5 Q))))) : q_At G X_M_wordHere (d + 1) 0 0 5 [some (.ref 159), some (.int p0), some (.int p1), some (.int l3), some (.int l4)] [] σ Q := by
  refine q_iload o_M_wordHere_5 rfl ?_
  refine q_iload_n o_M_wordHere_7 rfl ?_
  refine q_icmp_ge o_M_wordHere_8 (fun c1 => ?_) (fun c1 => ?_)
  · have h2 := h.1 c1
    refine q_iload_n o_M_wordHere_35 rfl ?_
    exact q_ire o_M_wordHere_36 rfl h2
  · have h3 := h.2 c1
    refine q_aload_n o_M_wordHere_11 rfl ?_
    refine q_iload_n o_M_wordHere_12 rfl ?_
    refine q_iload o_M_wordHere_13 rfl ?_
    refine q_iadd o_M_wordHere_15 ?_
    refine q2_callVi _ (a := 159) (As := [.int (p0 + l4)]) (st := []) hs o_M_wordHere_16 k_M_197 rfl rfl (Nat.le_of_ble_eq_true rfl) h3 (fun x7 σ5 hs6 h4 => ?_)
    have hJ : ∀ vJ : Int32, vJ = (if x7 = 0 then l3 else l4) → q_At G X_M_wordHere (d + 1) 0 0 28 [some (.ref 159), some (.int p0), some (.int p1), some (.int l3), some (.int l4)] [.int vJ] σ5 Q := by
      intro vJ eJ
      rw [eJ]
      clear eJ vJ
      refine q2_istn (ls' := [some (.ref 159), some (.int p0), some (.int p1), some (.int (if x7 = 0 then l3 else l4)), some (.int l4)]) o_M_wordHere_28 (Nat.le_of_ble_eq_true rfl) rfl ?_
      refine q2_inc (v := (l4 + 1)) (ls' := [some (.ref 159), some (.int p0), some (.int p1), some (.int (if x7 = 0 then l3 else l4)), some (.int (l4 + 1))]) o_M_wordHere_29 rfl rfl (Nat.le_of_ble_eq_true rfl) rfl ?_
      refine q_goto o_M_wordHere_32 ?_
      exact h4
    refine q_if_eq o_M_wordHere_19 (fun c8 => ?_) (fun c8 => ?_)
    · refine q_iload_n o_M_wordHere_27 rfl ?_
      exact hJ _ (Eq.symm (if_pos c8))
    · refine q_iload o_M_wordHere_22 rfl ?_
      refine q_goto o_M_wordHere_24 ?_
      exact hJ _ (Eq.symm (if_neg c8))

set_option maxRecDepth 20000 in
theorem v_M_takeOne_0 {G : q_G} {d : Nat} {σ : q_S} {Q : Option Value → q_S → Prop} {p0 : Int32} {p1 : Int32}  (hs : q_Sh σ) (h : (((q_I σ 159 8) ≤ 0 → q_Call G d 0 0 X_M_wordHere [.ref 159, .int p0, .int p1] σ (q_ri (fun x6 σ4 => ((¬ (q_I σ4 159 8) = 0 → Q (some (.int (if (q_I (q_setI σ4 159 7 ((q_I σ4 159 7) + (if (q_I σ4 159 8) ≤ 0 then (1 : Int32) else (0 : Int32)))) 159 8) ≤ 0 then x6 else (0 : Int32)))) (q_setI σ4 159 7 ((q_I σ4 159 7) + (if (q_I σ4 159 8) ≤ 0 then (1 : Int32) else (0 : Int32))))) ∧ ((q_I σ4 159 8) = 0 → ((0 ≤ x6 → Q (some (.int (if (q_I (q_setI σ4 159 7 ((q_I σ4 159 7) + (if (q_I σ4 159 8) ≤ 0 then (1 : Int32) else (0 : Int32)))) 159 8) ≤ 0 then x6 else (0 : Int32)))) (q_setI σ4 159 7 ((q_I σ4 159 7) + (if (q_I σ4 159 8) ≤ 0 then (1 : Int32) else (0 : Int32))))) ∧ (¬ 0 ≤ x6 → q_Call G d 0 0 X_M_wrong [.ref 159, .int 1] σ4 (q_rv (fun σ18 => Q (some (.int (if (q_I (q_setI σ18 159 7 ((q_I σ18 159 7) + (if (q_I σ18 159 8) ≤ 0 then (1 : Int32) else (0 : Int32)))) 159 8) ≤ 0 then x6 else (0 : Int32)))) (q_setI σ18 159 7 ((q_I σ18 159 7) + (if (q_I σ18 159 8) ≤ 0 then (1 : Int32) else (0 : Int32))))))))))))) ∧ (¬ (q_I σ 159 8) ≤ 0 → ((¬ (q_I σ 159 8) = 0 → Q (some (.int (if (q_I (q_setI σ 159 7 ((q_I σ 159 7) + (if (q_I σ 159 8) ≤ 0 then (1 : Int32) else (0 : Int32)))) 159 8) ≤ 0 then ((-1) : Int32) else (0 : Int32)))) (q_setI σ 159 7 ((q_I σ 159 7) + (if (q_I σ 159 8) ≤ 0 then (1 : Int32) else (0 : Int32))))) ∧ ((q_I σ 159 8) = 0 → q_Call G d 0 0 X_M_wrong [.ref 159, .int 1] σ (q_rv (fun σ30 => Q (some (.int (if (q_I (q_setI σ30 159 7 ((q_I σ30 159 7) + (if (q_I σ30 159 8) ≤ 0 then (1 : Int32) else (0 : Int32)))) 159 8) ≤ 0 then ((-1) : Int32) else (0 : Int32)))) (q_setI σ30 159 7 ((q_I σ30 159 7) + (if (q_I σ30 159 8) ≤ 0 then (1 : Int32) else (0 : Int32))))))))))) : q_At G X_M_takeOne (d + 1) 0 0 0 [some (.ref 159), some (.int p0), some (.int p1), none] [] σ Q := by
  refine q_aload_n o_M_takeOne_0 rfl ?_
  refine q2_getI hs o_M_takeOne_1 f_M_188 rfl ?_
  refine q_if_le o_M_takeOne_4 (fun c1 => ?_) (fun c1 => ?_)
  · have h2 := h.1 c1
    refine q_aload_n o_M_takeOne_11 rfl ?_
    refine q_iload_n o_M_takeOne_12 rfl ?_
    refine q_iload_n o_M_takeOne_13 rfl ?_
    refine q2_callVi _ (a := 159) (As := [.int p0, .int p1]) (st := []) hs o_M_takeOne_14 k_M_210 rfl rfl (Nat.le_of_ble_eq_true rfl) h2 (fun x6 σ4 hs5 h3 => ?_)
    refine q2_istn (ls' := [some (.ref 159), some (.int p0), some (.int p1), some (.int x6)]) o_M_takeOne_17 (Nat.le_of_ble_eq_true rfl) rfl ?_
    refine q_aload_n o_M_takeOne_18 rfl ?_
    refine q2_getI hs5 o_M_takeOne_19 f_M_188 rfl ?_
    refine q_if_ne o_M_takeOne_22 (fun c7 => ?_) (fun c7 => ?_)
    · have h8 := h3.1 c7
      refine q_aload_n o_M_takeOne_34 rfl ?_
      refine q_dup o_M_takeOne_35 rfl ?_
      refine q2_getI hs5 o_M_takeOne_36 f_M_185 rfl ?_
      refine q_aload_n o_M_takeOne_39 rfl ?_
      refine q2_getI hs5 o_M_takeOne_40 f_M_188 rfl ?_
      have hJ : ∀ vJ : Int32, vJ = (if (q_I σ4 159 8) ≤ 0 then (1 : Int32) else (0 : Int32)) → q_At G X_M_takeOne (d + 1) 0 0 51 [some (.ref 159), some (.int p0), some (.int p1), some (.int x6)] [.int vJ, .int (q_I σ4 159 7), .ref 159] σ4 Q := by
        intro vJ eJ
        rw [eJ]
        clear eJ vJ
        refine q_iadd o_M_takeOne_51 ?_
        refine q2_putI hs5 o_M_takeOne_52 fp_M_185 rfl rfl rfl ?_
        refine q_aload_n o_M_takeOne_55 rfl ?_
        refine q2_getI hs5 o_M_takeOne_56 f_M_188 rfl ?_
        have hJ : ∀ vJ : Int32, vJ = (if (q_I (q_setI σ4 159 7 ((q_I σ4 159 7) + (if (q_I σ4 159 8) ≤ 0 then (1 : Int32) else (0 : Int32)))) 159 8) ≤ 0 then x6 else (0 : Int32)) → q_At G X_M_takeOne (d + 1) 0 0 67 [some (.ref 159), some (.int p0), some (.int p1), some (.int x6)] [.int vJ] (q_setI σ4 159 7 ((q_I σ4 159 7) + (if (q_I σ4 159 8) ≤ 0 then (1 : Int32) else (0 : Int32)))) Q := by
          intro vJ eJ
          rw [eJ]
          clear eJ vJ
          exact q_ire o_M_takeOne_67 rfl h8
        refine q_if_le o_M_takeOne_59 (fun c10 => ?_) (fun c10 => ?_)
        · refine q_iload_n o_M_takeOne_66 rfl ?_
          exact hJ _ (Eq.symm (if_pos c10))
        · refine q_iconst (v := 0) o_M_takeOne_62 (by decide) ?_
          refine q_goto o_M_takeOne_63 ?_
          exact hJ _ (Eq.symm (if_neg c10))
      refine q_if_le o_M_takeOne_43 (fun c9 => ?_) (fun c9 => ?_)
      · refine q_iconst (v := 1) o_M_takeOne_50 (by decide) ?_
        exact hJ _ (Eq.symm (if_pos c9))
      · refine q_iconst (v := 0) o_M_takeOne_46 (by decide) ?_
        refine q_goto o_M_takeOne_47 ?_
        exact hJ _ (Eq.symm (if_neg c9))
    · have h11 := h3.2 c7
      refine q_iload_n o_M_takeOne_25 rfl ?_
      refine q_if_ge o_M_takeOne_26 (fun c12 => ?_) (fun c12 => ?_)
      · have h13 := h11.1 c12
        refine q_aload_n o_M_takeOne_34 rfl ?_
        refine q_dup o_M_takeOne_35 rfl ?_
        refine q2_getI hs5 o_M_takeOne_36 f_M_185 rfl ?_
        refine q_aload_n o_M_takeOne_39 rfl ?_
        refine q2_getI hs5 o_M_takeOne_40 f_M_188 rfl ?_
        have hJ : ∀ vJ : Int32, vJ = (if (q_I σ4 159 8) ≤ 0 then (1 : Int32) else (0 : Int32)) → q_At G X_M_takeOne (d + 1) 0 0 51 [some (.ref 159), some (.int p0), some (.int p1), some (.int x6)] [.int vJ, .int (q_I σ4 159 7), .ref 159] σ4 Q := by
          intro vJ eJ
          rw [eJ]
          clear eJ vJ
          refine q_iadd o_M_takeOne_51 ?_
          refine q2_putI hs5 o_M_takeOne_52 fp_M_185 rfl rfl rfl ?_
          refine q_aload_n o_M_takeOne_55 rfl ?_
          refine q2_getI hs5 o_M_takeOne_56 f_M_188 rfl ?_
          have hJ : ∀ vJ : Int32, vJ = (if (q_I (q_setI σ4 159 7 ((q_I σ4 159 7) + (if (q_I σ4 159 8) ≤ 0 then (1 : Int32) else (0 : Int32)))) 159 8) ≤ 0 then x6 else (0 : Int32)) → q_At G X_M_takeOne (d + 1) 0 0 67 [some (.ref 159), some (.int p0), some (.int p1), some (.int x6)] [.int vJ] (q_setI σ4 159 7 ((q_I σ4 159 7) + (if (q_I σ4 159 8) ≤ 0 then (1 : Int32) else (0 : Int32)))) Q := by
            intro vJ eJ
            rw [eJ]
            clear eJ vJ
            exact q_ire o_M_takeOne_67 rfl h13
          refine q_if_le o_M_takeOne_59 (fun c15 => ?_) (fun c15 => ?_)
          · refine q_iload_n o_M_takeOne_66 rfl ?_
            exact hJ _ (Eq.symm (if_pos c15))
          · refine q_iconst (v := 0) o_M_takeOne_62 (by decide) ?_
            refine q_goto o_M_takeOne_63 ?_
            exact hJ _ (Eq.symm (if_neg c15))
        refine q_if_le o_M_takeOne_43 (fun c14 => ?_) (fun c14 => ?_)
        · refine q_iconst (v := 1) o_M_takeOne_50 (by decide) ?_
          exact hJ _ (Eq.symm (if_pos c14))
        · refine q_iconst (v := 0) o_M_takeOne_46 (by decide) ?_
          refine q_goto o_M_takeOne_47 ?_
          exact hJ _ (Eq.symm (if_neg c14))
      · have h16 := h11.2 c12
        refine q_aload_n o_M_takeOne_29 rfl ?_
        refine q_iconst (v := 1) o_M_takeOne_30 (by decide) ?_
        refine q2_callVv _ (a := 159) (As := [.int 1]) (st := []) hs5 o_M_takeOne_31 k_M_194 rfl rfl (Nat.le_of_ble_eq_true rfl) h16 (fun σ18 hs19 h17 => ?_)
        refine q_aload_n o_M_takeOne_34 rfl ?_
        refine q_dup o_M_takeOne_35 rfl ?_
        refine q2_getI hs19 o_M_takeOne_36 f_M_185 rfl ?_
        refine q_aload_n o_M_takeOne_39 rfl ?_
        refine q2_getI hs19 o_M_takeOne_40 f_M_188 rfl ?_
        have hJ : ∀ vJ : Int32, vJ = (if (q_I σ18 159 8) ≤ 0 then (1 : Int32) else (0 : Int32)) → q_At G X_M_takeOne (d + 1) 0 0 51 [some (.ref 159), some (.int p0), some (.int p1), some (.int x6)] [.int vJ, .int (q_I σ18 159 7), .ref 159] σ18 Q := by
          intro vJ eJ
          rw [eJ]
          clear eJ vJ
          refine q_iadd o_M_takeOne_51 ?_
          refine q2_putI hs19 o_M_takeOne_52 fp_M_185 rfl rfl rfl ?_
          refine q_aload_n o_M_takeOne_55 rfl ?_
          refine q2_getI hs19 o_M_takeOne_56 f_M_188 rfl ?_
          have hJ : ∀ vJ : Int32, vJ = (if (q_I (q_setI σ18 159 7 ((q_I σ18 159 7) + (if (q_I σ18 159 8) ≤ 0 then (1 : Int32) else (0 : Int32)))) 159 8) ≤ 0 then x6 else (0 : Int32)) → q_At G X_M_takeOne (d + 1) 0 0 67 [some (.ref 159), some (.int p0), some (.int p1), some (.int x6)] [.int vJ] (q_setI σ18 159 7 ((q_I σ18 159 7) + (if (q_I σ18 159 8) ≤ 0 then (1 : Int32) else (0 : Int32)))) Q := by
            intro vJ eJ
            rw [eJ]
            clear eJ vJ
            exact q_ire o_M_takeOne_67 rfl h17
          refine q_if_le o_M_takeOne_59 (fun c21 => ?_) (fun c21 => ?_)
          · refine q_iload_n o_M_takeOne_66 rfl ?_
            exact hJ _ (Eq.symm (if_pos c21))
          · refine q_iconst (v := 0) o_M_takeOne_62 (by decide) ?_
            refine q_goto o_M_takeOne_63 ?_
            exact hJ _ (Eq.symm (if_neg c21))
        refine q_if_le o_M_takeOne_43 (fun c20 => ?_) (fun c20 => ?_)
        · refine q_iconst (v := 1) o_M_takeOne_50 (by decide) ?_
          exact hJ _ (Eq.symm (if_pos c20))
        · refine q_iconst (v := 0) o_M_takeOne_46 (by decide) ?_
          refine q_goto o_M_takeOne_47 ?_
          exact hJ _ (Eq.symm (if_neg c20))
  · have h22 := h.2 c1
    refine q_iconst (v := (-1)) o_M_takeOne_7 (by decide) ?_
    refine q_goto o_M_takeOne_8 ?_
    refine q2_istn (ls' := [some (.ref 159), some (.int p0), some (.int p1), some (.int (-1))]) o_M_takeOne_17 (Nat.le_of_ble_eq_true rfl) rfl ?_
    refine q_aload_n o_M_takeOne_18 rfl ?_
    refine q2_getI hs o_M_takeOne_19 f_M_188 rfl ?_
    refine q_if_ne o_M_takeOne_22 (fun c23 => ?_) (fun c23 => ?_)
    · have h24 := h22.1 c23
      refine q_aload_n o_M_takeOne_34 rfl ?_
      refine q_dup o_M_takeOne_35 rfl ?_
      refine q2_getI hs o_M_takeOne_36 f_M_185 rfl ?_
      refine q_aload_n o_M_takeOne_39 rfl ?_
      refine q2_getI hs o_M_takeOne_40 f_M_188 rfl ?_
      have hJ : ∀ vJ : Int32, vJ = (if (q_I σ 159 8) ≤ 0 then (1 : Int32) else (0 : Int32)) → q_At G X_M_takeOne (d + 1) 0 0 51 [some (.ref 159), some (.int p0), some (.int p1), some (.int (-1))] [.int vJ, .int (q_I σ 159 7), .ref 159] σ Q := by
        intro vJ eJ
        rw [eJ]
        clear eJ vJ
        refine q_iadd o_M_takeOne_51 ?_
        refine q2_putI hs o_M_takeOne_52 fp_M_185 rfl rfl rfl ?_
        refine q_aload_n o_M_takeOne_55 rfl ?_
        refine q2_getI hs o_M_takeOne_56 f_M_188 rfl ?_
        have hJ : ∀ vJ : Int32, vJ = (if (q_I (q_setI σ 159 7 ((q_I σ 159 7) + (if (q_I σ 159 8) ≤ 0 then (1 : Int32) else (0 : Int32)))) 159 8) ≤ 0 then ((-1) : Int32) else (0 : Int32)) → q_At G X_M_takeOne (d + 1) 0 0 67 [some (.ref 159), some (.int p0), some (.int p1), some (.int (-1))] [.int vJ] (q_setI σ 159 7 ((q_I σ 159 7) + (if (q_I σ 159 8) ≤ 0 then (1 : Int32) else (0 : Int32)))) Q := by
          intro vJ eJ
          rw [eJ]
          clear eJ vJ
          exact q_ire o_M_takeOne_67 rfl h24
        refine q_if_le o_M_takeOne_59 (fun c26 => ?_) (fun c26 => ?_)
        · refine q_iload_n o_M_takeOne_66 rfl ?_
          exact hJ _ (Eq.symm (if_pos c26))
        · refine q_iconst (v := 0) o_M_takeOne_62 (by decide) ?_
          refine q_goto o_M_takeOne_63 ?_
          exact hJ _ (Eq.symm (if_neg c26))
      refine q_if_le o_M_takeOne_43 (fun c25 => ?_) (fun c25 => ?_)
      · refine q_iconst (v := 1) o_M_takeOne_50 (by decide) ?_
        exact hJ _ (Eq.symm (if_pos c25))
      · refine q_iconst (v := 0) o_M_takeOne_46 (by decide) ?_
        refine q_goto o_M_takeOne_47 ?_
        exact hJ _ (Eq.symm (if_neg c25))
    · have h27 := h22.2 c23
      refine q_iload_n o_M_takeOne_25 rfl ?_
      refine q_if_ge o_M_takeOne_26 (fun c28 => absurd c28 (by decide)) (fun _ => ?_)
      refine q_aload_n o_M_takeOne_29 rfl ?_
      refine q_iconst (v := 1) o_M_takeOne_30 (by decide) ?_
      refine q2_callVv _ (a := 159) (As := [.int 1]) (st := []) hs o_M_takeOne_31 k_M_194 rfl rfl (Nat.le_of_ble_eq_true rfl) h27 (fun σ30 hs31 h29 => ?_)
      refine q_aload_n o_M_takeOne_34 rfl ?_
      refine q_dup o_M_takeOne_35 rfl ?_
      refine q2_getI hs31 o_M_takeOne_36 f_M_185 rfl ?_
      refine q_aload_n o_M_takeOne_39 rfl ?_
      refine q2_getI hs31 o_M_takeOne_40 f_M_188 rfl ?_
      have hJ : ∀ vJ : Int32, vJ = (if (q_I σ30 159 8) ≤ 0 then (1 : Int32) else (0 : Int32)) → q_At G X_M_takeOne (d + 1) 0 0 51 [some (.ref 159), some (.int p0), some (.int p1), some (.int (-1))] [.int vJ, .int (q_I σ30 159 7), .ref 159] σ30 Q := by
        intro vJ eJ
        rw [eJ]
        clear eJ vJ
        refine q_iadd o_M_takeOne_51 ?_
        refine q2_putI hs31 o_M_takeOne_52 fp_M_185 rfl rfl rfl ?_
        refine q_aload_n o_M_takeOne_55 rfl ?_
        refine q2_getI hs31 o_M_takeOne_56 f_M_188 rfl ?_
        have hJ : ∀ vJ : Int32, vJ = (if (q_I (q_setI σ30 159 7 ((q_I σ30 159 7) + (if (q_I σ30 159 8) ≤ 0 then (1 : Int32) else (0 : Int32)))) 159 8) ≤ 0 then ((-1) : Int32) else (0 : Int32)) → q_At G X_M_takeOne (d + 1) 0 0 67 [some (.ref 159), some (.int p0), some (.int p1), some (.int (-1))] [.int vJ] (q_setI σ30 159 7 ((q_I σ30 159 7) + (if (q_I σ30 159 8) ≤ 0 then (1 : Int32) else (0 : Int32)))) Q := by
          intro vJ eJ
          rw [eJ]
          clear eJ vJ
          exact q_ire o_M_takeOne_67 rfl h29
        refine q_if_le o_M_takeOne_59 (fun c33 => ?_) (fun c33 => ?_)
        · refine q_iload_n o_M_takeOne_66 rfl ?_
          exact hJ _ (Eq.symm (if_pos c33))
        · refine q_iconst (v := 0) o_M_takeOne_62 (by decide) ?_
          refine q_goto o_M_takeOne_63 ?_
          exact hJ _ (Eq.symm (if_neg c33))
      refine q_if_le o_M_takeOne_43 (fun c32 => ?_) (fun c32 => ?_)
      · refine q_iconst (v := 1) o_M_takeOne_50 (by decide) ?_
        exact hJ _ (Eq.symm (if_pos c32))
      · refine q_iconst (v := 0) o_M_takeOne_46 (by decide) ?_
        refine q_goto o_M_takeOne_47 ?_
        exact hJ _ (Eq.symm (if_neg c32))

set_option maxRecDepth 20000 in
theorem v_M_isName_0 {G : q_G} {d : Nat} {σ : q_S} {Q : Option Value → q_S → Prop}   (hs : q_Sh σ) (h : ((¬ (q_I σ 159 8) = 0 → Q (some (.int 0)) σ) ∧ ((q_I σ 159 8) = 0 → (∃ k5, (q_I σ 159 7) = nI k5 ∧ k5 < 1002 ∧ ((¬ (q_I σ 161 k5) = 1 → Q (some (.int 0)) σ) ∧ ((q_I σ 161 k5) = 1 → q_Call G d 0 0 X_M_wordHere [.ref 159, .int 0, .int 25] σ (q_ri (fun x12 σ10 => (narrow .boolean (.int (if 0 ≤ x12 then (0 : Int32) else (1 : Int32))) = .int (if 0 ≤ x12 then (0 : Int32) else (1 : Int32)) ∧ Q (some (.int (if 0 ≤ x12 then (0 : Int32) else (1 : Int32)))) σ10))))))))) : q_At G X_M_isName (d + 1) 0 0 0 [some (.ref 159)] [] σ Q := by
  refine q_aload_n o_M_isName_0 rfl ?_
  refine q2_getI hs o_M_isName_1 f_M_188 rfl ?_
  refine q_if_ne o_M_isName_4 (fun c1 => ?_) (fun c1 => ?_)
  · have h2 := h.1 c1
    refine q_iconst (v := 0) o_M_isName_34 (by decide) ?_
    exact q_zre o_M_isName_35 rfl rfl h2
  · have h3 := h.2 c1
    refine q_aload_n o_M_isName_7 rfl ?_
    refine q2_getR hs o_M_isName_8 f_M_24 rfl (fz_159_4 hs) ?_
    refine q_aload_n o_M_isName_11 rfl ?_
    refine q2_getI hs o_M_isName_12 f_M_185 rfl ?_
    obtain ⟨k5, eh4, bh4, h4⟩ := h3
    refine q2_iald hs o_M_isName_15 rfl eh4 bh4 (by decide) ?_
    refine q_iconst (v := 1) o_M_isName_16 (by decide) ?_
    refine q_icmp_ne o_M_isName_17 (fun c6 => ?_) (fun c6 => ?_)
    · have h7 := h4.1 c6
      refine q_iconst (v := 0) o_M_isName_34 (by decide) ?_
      exact q_zre o_M_isName_35 rfl rfl h7
    · have h8 := h4.2 c6
      refine q_aload_n o_M_isName_20 rfl ?_
      refine q_iconst (v := 0) o_M_isName_21 (by decide) ?_
      refine q_bipush (v := 25) o_M_isName_22 (by decide) ?_
      refine q2_callVi _ (a := 159) (As := [.int 0, .int 25]) (st := []) hs o_M_isName_24 k_M_210 rfl rfl (Nat.le_of_ble_eq_true rfl) h8 (fun x12 σ10 hs11 h9 => ?_)
      have hJ : ∀ vJ : Int32, vJ = (if 0 ≤ x12 then (0 : Int32) else (1 : Int32)) → q_At G X_M_isName (d + 1) 0 0 35 [some (.ref 159)] [.int vJ] σ10 Q := by
        intro vJ eJ
        rw [eJ]
        clear eJ vJ
        exact q_zre o_M_isName_35 rfl h9.1 h9.2
      refine q_if_ge o_M_isName_27 (fun c13 => ?_) (fun c13 => ?_)
      · refine q_iconst (v := 0) o_M_isName_34 (by decide) ?_
        exact hJ _ (Eq.symm (if_pos c13))
      · refine q_iconst (v := 1) o_M_isName_30 (by decide) ?_
        refine q_goto o_M_isName_31 ?_
        exact hJ _ (Eq.symm (if_neg c13))

set_option maxRecDepth 20000 in
theorem v_M_find_0 {G : q_G} {d : Nat} {σ : q_S} {Q : Option Value → q_S → Prop} {p0 : Int32}  (hs : q_Sh σ) (h : q_At G X_M_find d 0 0 2 [some (.ref 159), some (.int p0), some (.int 0)] [] σ Q) : q_At G X_M_find d 0 0 0 [some (.ref 159), some (.int p0), none] [] σ Q := by
  refine q_iconst (v := 0) o_M_find_0 (by decide) ?_
  refine q2_istn (ls' := [some (.ref 159), some (.int p0), some (.int 0)]) o_M_find_1 (Nat.le_of_ble_eq_true rfl) rfl ?_
  exact h

set_option maxRecDepth 20000 in
theorem v_M_find_2 {G : q_G} {d : Nat} {σ : q_S} {Q : Option Value → q_S → Prop} {p0 : Int32} {l2 : Int32}  (hs : q_Sh σ) (h : (((if p0 = 0 then (q_I σ 159 18) else (q_I σ 159 19)) ≤ l2 → Q (some (.int (-1))) σ) ∧ (¬ (if p0 = 0 then (q_I σ 159 18) else (q_I σ 159 19)) ≤ l2 → ((p0 = 0 → (∃ k8, l2 = nI k8 ∧ k8 < 12 ∧ (∃ k10, (q_I σ 159 7) = nI k10 ∧ k10 < 1002 ∧ ((¬ (lg_cmp (q_L σ 168 k8) (q_L σ 163 k10)) = 0 → q_At G X_M_find d 0 0 2 [some (.ref 159), some (.int p0), some (.int (l2 + 1))] [] σ Q) ∧ ((lg_cmp (q_L σ 168 k8) (q_L σ 163 k10)) = 0 → ((p0 = 0 → (∃ k17, l2 = nI k17 ∧ k17 < 12 ∧ Q (some (.int (q_I σ 170 k17))) σ)) ∧ (¬ p0 = 0 → (∃ k20, l2 = nI k20 ∧ k20 < 12 ∧ Q (some (.int (q_I σ 171 k20))) σ)))))))) ∧ (¬ p0 = 0 → (∃ k23, l2 = nI k23 ∧ k23 < 12 ∧ (∃ k25, (q_I σ 159 7) = nI k25 ∧ k25 < 1002 ∧ ((¬ (lg_cmp (q_L σ 169 k23) (q_L σ 163 k25)) = 0 → q_At G X_M_find d 0 0 2 [some (.ref 159), some (.int p0), some (.int (l2 + 1))] [] σ Q) ∧ ((lg_cmp (q_L σ 169 k23) (q_L σ 163 k25)) = 0 → ((p0 = 0 → (∃ k32, l2 = nI k32 ∧ k32 < 12 ∧ Q (some (.int (q_I σ 170 k32))) σ)) ∧ (¬ p0 = 0 → (∃ k35, l2 = nI k35 ∧ k35 < 12 ∧ Q (some (.int (q_I σ 171 k35))) σ)))))))))))) : q_At G X_M_find d 0 0 2 [some (.ref 159), some (.int p0), some (.int l2)] [] σ Q := by
  refine q_iload_n o_M_find_2 rfl ?_
  refine q_iload_n o_M_find_3 rfl ?_
  have hJ : ∀ vJ : Int32, vJ = (if p0 = 0 then (q_I σ 159 18) else (q_I σ 159 19)) → q_At G X_M_find d 0 0 18 [some (.ref 159), some (.int p0), some (.int l2)] [.int vJ, .int l2] σ Q := by
    intro vJ eJ
    rw [eJ]
    clear eJ vJ
    refine q_icmp_ge o_M_find_18 (fun c2 => ?_) (fun c2 => ?_)
    · have h3 := h.1 c2
      refine q_iconst (v := (-1)) o_M_find_79 (by decide) ?_
      exact q_ire o_M_find_80 rfl h3
    · have h4 := h.2 c2
      refine q_iload_n o_M_find_21 rfl ?_
      refine q_if_eq o_M_find_22 (fun c5 => ?_) (fun c5 => ?_)
      · have h6 := h4.1 c5
        refine q_aload_n o_M_find_34 rfl ?_
        refine q2_getR hs o_M_find_35 f_M_112 rfl (fz_159_14 hs) ?_
        refine q_iload_n o_M_find_38 rfl ?_
        obtain ⟨k8, eh7, bh7, h7⟩ := h6
        refine q2_lald hs o_M_find_39 rfl eh7 bh7 (by decide) ?_
        refine q_aload_n o_M_find_40 rfl ?_
        refine q2_getR hs o_M_find_41 f_M_30 rfl (fz_159_6 hs) ?_
        refine q_aload_n o_M_find_44 rfl ?_
        refine q2_getI hs o_M_find_45 f_M_185 rfl ?_
        obtain ⟨k10, eh9, bh9, h9⟩ := h7
        refine q2_lald hs o_M_find_48 rfl eh9 bh9 (by decide) ?_
        refine q_lcmp o_M_find_49 ?_
        refine q_if_ne o_M_find_50 (fun c11 => ?_) (fun c11 => ?_)
        · have h12 := h9.1 c11
          refine q2_inc (v := (l2 + 1)) (ls' := [some (.ref 159), some (.int p0), some (.int (l2 + 1))]) o_M_find_73 rfl rfl (Nat.le_of_ble_eq_true rfl) rfl ?_
          refine q_goto o_M_find_76 ?_
          exact h12
        · have h13 := h9.2 c11
          refine q_iload_n o_M_find_53 rfl ?_
          refine q_if_eq o_M_find_54 (fun c14 => ?_) (fun c14 => ?_)
          · have h15 := h13.1 c14
            refine q_aload_n o_M_find_66 rfl ?_
            refine q2_getR hs o_M_find_67 f_M_118 rfl (fz_159_16 hs) ?_
            refine q_iload_n o_M_find_70 rfl ?_
            obtain ⟨k17, eh16, bh16, h16⟩ := h15
            refine q2_iald hs o_M_find_71 rfl eh16 bh16 (by decide) ?_
            exact q_ire o_M_find_72 rfl h16
          · have h18 := h13.2 c14
            refine q_aload_n o_M_find_57 rfl ?_
            refine q2_getR hs o_M_find_58 f_M_121 rfl (fz_159_17 hs) ?_
            refine q_iload_n o_M_find_61 rfl ?_
            obtain ⟨k20, eh19, bh19, h19⟩ := h18
            refine q2_iald hs o_M_find_62 rfl eh19 bh19 (by decide) ?_
            refine q_goto o_M_find_63 ?_
            exact q_ire o_M_find_72 rfl h19
      · have h21 := h4.2 c5
        refine q_aload_n o_M_find_25 rfl ?_
        refine q2_getR hs o_M_find_26 f_M_115 rfl (fz_159_15 hs) ?_
        refine q_iload_n o_M_find_29 rfl ?_
        obtain ⟨k23, eh22, bh22, h22⟩ := h21
        refine q2_lald hs o_M_find_30 rfl eh22 bh22 (by decide) ?_
        refine q_goto o_M_find_31 ?_
        refine q_aload_n o_M_find_40 rfl ?_
        refine q2_getR hs o_M_find_41 f_M_30 rfl (fz_159_6 hs) ?_
        refine q_aload_n o_M_find_44 rfl ?_
        refine q2_getI hs o_M_find_45 f_M_185 rfl ?_
        obtain ⟨k25, eh24, bh24, h24⟩ := h22
        refine q2_lald hs o_M_find_48 rfl eh24 bh24 (by decide) ?_
        refine q_lcmp o_M_find_49 ?_
        refine q_if_ne o_M_find_50 (fun c26 => ?_) (fun c26 => ?_)
        · have h27 := h24.1 c26
          refine q2_inc (v := (l2 + 1)) (ls' := [some (.ref 159), some (.int p0), some (.int (l2 + 1))]) o_M_find_73 rfl rfl (Nat.le_of_ble_eq_true rfl) rfl ?_
          refine q_goto o_M_find_76 ?_
          exact h27
        · have h28 := h24.2 c26
          refine q_iload_n o_M_find_53 rfl ?_
          refine q_if_eq o_M_find_54 (fun c29 => ?_) (fun c29 => ?_)
          · have h30 := h28.1 c29
            refine q_aload_n o_M_find_66 rfl ?_
            refine q2_getR hs o_M_find_67 f_M_118 rfl (fz_159_16 hs) ?_
            refine q_iload_n o_M_find_70 rfl ?_
            obtain ⟨k32, eh31, bh31, h31⟩ := h30
            refine q2_iald hs o_M_find_71 rfl eh31 bh31 (by decide) ?_
            exact q_ire o_M_find_72 rfl h31
          · have h33 := h28.2 c29
            refine q_aload_n o_M_find_57 rfl ?_
            refine q2_getR hs o_M_find_58 f_M_121 rfl (fz_159_17 hs) ?_
            refine q_iload_n o_M_find_61 rfl ?_
            obtain ⟨k35, eh34, bh34, h34⟩ := h33
            refine q2_iald hs o_M_find_62 rfl eh34 bh34 (by decide) ?_
            refine q_goto o_M_find_63 ?_
            exact q_ire o_M_find_72 rfl h34
  refine q_if_eq o_M_find_4 (fun c1 => ?_) (fun c1 => ?_)
  · refine q_aload_n o_M_find_14 rfl ?_
    refine q2_getI hs o_M_find_15 f_M_216 rfl ?_
    exact hJ _ (Eq.symm (if_pos c1))
  · refine q_aload_n o_M_find_7 rfl ?_
    refine q2_getI hs o_M_find_8 f_M_213 rfl ?_
    refine q_goto o_M_find_11 ?_
    exact hJ _ (Eq.symm (if_neg c1))

set_option maxRecDepth 20000 in
theorem v_M_toldHere_0 {G : q_G} {d : Nat} {σ : q_S} {Q : Option Value → q_S → Prop} {p0 : Int32} {p1 : Int32}  (hs : q_Sh σ) (h : ((¬ (q_I σ 159 8) = 0 → (((q_I σ 159 8) ≤ 0 → q_Call G d 0 0 X_M_find [.ref 159, .int p0] σ (q_ri (fun x8 σ6 => ((¬ (q_I σ6 159 8) = 0 → Q (some (.int (if (q_I σ6 159 8) ≤ 0 then (x8 - p1) else (0 : Int32)))) σ6) ∧ ((q_I σ6 159 8) = 0 → q_Call G d 0 0 X_M_within [.int (x8 - p1), .int 0, .int 5] σ6 (q_ri (fun x16 σ14 => ((¬ x16 = 0 → Q (some (.int (if (q_I σ14 159 8) ≤ 0 then (x8 - p1) else (0 : Int32)))) σ14) ∧ (x16 = 0 → q_Call G d 0 0 X_M_wrong [.ref 159, .int 2] σ14 (q_rv (fun σ22 => Q (some (.int (if (q_I σ22 159 8) ≤ 0 then (x8 - p1) else (0 : Int32)))) σ22))))))))))) ∧ (¬ (q_I σ 159 8) ≤ 0 → ((¬ (q_I σ 159 8) = 0 → Q (some (.int (if (q_I σ 159 8) ≤ 0 then ((-1) : Int32) else (0 : Int32)))) σ) ∧ ((q_I σ 159 8) = 0 → q_Call G d 0 0 X_M_within [.int (-1), .int 0, .int 5] σ (q_ri (fun x33 σ31 => ((¬ x33 = 0 → Q (some (.int (if (q_I σ31 159 8) ≤ 0 then ((-1) : Int32) else (0 : Int32)))) σ31) ∧ (x33 = 0 → q_Call G d 0 0 X_M_wrong [.ref 159, .int 2] σ31 (q_rv (fun σ39 => Q (some (.int (if (q_I σ39 159 8) ≤ 0 then ((-1) : Int32) else (0 : Int32)))) σ39))))))))))) ∧ ((q_I σ 159 8) = 0 → q_Call G d 0 0 X_M_isName [.ref 159] σ (q_ri (fun x46 σ44 => ((¬ x46 = 0 → (((q_I σ44 159 8) ≤ 0 → q_Call G d 0 0 X_M_find [.ref 159, .int p0] σ44 (q_ri (fun x54 σ52 => ((¬ (q_I σ52 159 8) = 0 → Q (some (.int (if (q_I σ52 159 8) ≤ 0 then (x54 - p1) else (0 : Int32)))) σ52) ∧ ((q_I σ52 159 8) = 0 → q_Call G d 0 0 X_M_within [.int (x54 - p1), .int 0, .int 5] σ52 (q_ri (fun x62 σ60 => ((¬ x62 = 0 → Q (some (.int (if (q_I σ60 159 8) ≤ 0 then (x54 - p1) else (0 : Int32)))) σ60) ∧ (x62 = 0 → q_Call G d 0 0 X_M_wrong [.ref 159, .int 2] σ60 (q_rv (fun σ68 => Q (some (.int (if (q_I σ68 159 8) ≤ 0 then (x54 - p1) else (0 : Int32)))) σ68))))))))))) ∧ (¬ (q_I σ44 159 8) ≤ 0 → ((¬ (q_I σ44 159 8) = 0 → Q (some (.int (if (q_I σ44 159 8) ≤ 0 then ((-1) : Int32) else (0 : Int32)))) σ44) ∧ ((q_I σ44 159 8) = 0 → q_Call G d 0 0 X_M_within [.int (-1), .int 0, .int 5] σ44 (q_ri (fun x79 σ77 => ((¬ x79 = 0 → Q (some (.int (if (q_I σ77 159 8) ≤ 0 then ((-1) : Int32) else (0 : Int32)))) σ77) ∧ (x79 = 0 → q_Call G d 0 0 X_M_wrong [.ref 159, .int 2] σ77 (q_rv (fun σ85 => Q (some (.int (if (q_I σ85 159 8) ≤ 0 then ((-1) : Int32) else (0 : Int32)))) σ85))))))))))) ∧ (x46 = 0 → q_Call G d 0 0 X_M_wrong [.ref 159, .int 1] σ44 (q_rv (fun σ90 => (((q_I σ90 159 8) ≤ 0 → q_Call G d 0 0 X_M_find [.ref 159, .int p0] σ90 (q_ri (fun x97 σ95 => ((¬ (q_I σ95 159 8) = 0 → Q (some (.int (if (q_I σ95 159 8) ≤ 0 then (x97 - p1) else (0 : Int32)))) σ95) ∧ ((q_I σ95 159 8) = 0 → q_Call G d 0 0 X_M_within [.int (x97 - p1), .int 0, .int 5] σ95 (q_ri (fun x105 σ103 => ((¬ x105 = 0 → Q (some (.int (if (q_I σ103 159 8) ≤ 0 then (x97 - p1) else (0 : Int32)))) σ103) ∧ (x105 = 0 → q_Call G d 0 0 X_M_wrong [.ref 159, .int 2] σ103 (q_rv (fun σ111 => Q (some (.int (if (q_I σ111 159 8) ≤ 0 then (x97 - p1) else (0 : Int32)))) σ111))))))))))) ∧ (¬ (q_I σ90 159 8) ≤ 0 → ((¬ (q_I σ90 159 8) = 0 → Q (some (.int (if (q_I σ90 159 8) ≤ 0 then ((-1) : Int32) else (0 : Int32)))) σ90) ∧ ((q_I σ90 159 8) = 0 → q_Call G d 0 0 X_M_within [.int (-1), .int 0, .int 5] σ90 (q_ri (fun x122 σ120 => ((¬ x122 = 0 → Q (some (.int (if (q_I σ120 159 8) ≤ 0 then ((-1) : Int32) else (0 : Int32)))) σ120) ∧ (x122 = 0 → q_Call G d 0 0 X_M_wrong [.ref 159, .int 2] σ120 (q_rv (fun σ128 => Q (some (.int (if (q_I σ128 159 8) ≤ 0 then ((-1) : Int32) else (0 : Int32)))) σ128))))))))))))))))))) : q_At G X_M_toldHere (d + 1) 0 0 0 [some (.ref 159), some (.int p0), some (.int p1), none] [] σ Q := by
  refine q_aload_n o_M_toldHere_0 rfl ?_
  refine q2_getI hs o_M_toldHere_1 f_M_188 rfl ?_
  refine q_if_ne o_M_toldHere_4 (fun c1 => ?_) (fun c1 => ?_)
  · have h2 := h.1 c1
    refine q_aload_n o_M_toldHere_19 rfl ?_
    refine q2_getI hs o_M_toldHere_20 f_M_188 rfl ?_
    refine q_if_le o_M_toldHere_23 (fun c3 => ?_) (fun c3 => ?_)
    · have h4 := h2.1 c3
      refine q_aload_n o_M_toldHere_30 rfl ?_
      refine q_iload_n o_M_toldHere_31 rfl ?_
      refine q2_callVi _ (a := 159) (As := [.int p0]) (st := []) hs o_M_toldHere_32 k_M_223 rfl rfl (Nat.le_of_ble_eq_true rfl) h4 (fun x8 σ6 hs7 h5 => ?_)
      refine q_iload_n o_M_toldHere_35 rfl ?_
      refine q_isub o_M_toldHere_36 ?_
      refine q2_istn (ls' := [some (.ref 159), some (.int p0), some (.int p1), some (.int (x8 - p1))]) o_M_toldHere_37 (Nat.le_of_ble_eq_true rfl) rfl ?_
      refine q_aload_n o_M_toldHere_38 rfl ?_
      refine q2_getI hs7 o_M_toldHere_39 f_M_188 rfl ?_
      refine q_if_ne o_M_toldHere_42 (fun c9 => ?_) (fun c9 => ?_)
      · have h10 := h5.1 c9
        refine q_aload_n o_M_toldHere_59 rfl ?_
        refine q2_getI hs7 o_M_toldHere_60 f_M_188 rfl ?_
        have hJ : ∀ vJ : Int32, vJ = (if (q_I σ6 159 8) ≤ 0 then (x8 - p1) else (0 : Int32)) → q_At G X_M_toldHere (d + 1) 0 0 71 [some (.ref 159), some (.int p0), some (.int p1), some (.int (x8 - p1))] [.int vJ] σ6 Q := by
          intro vJ eJ
          rw [eJ]
          clear eJ vJ
          exact q_ire o_M_toldHere_71 rfl h10
        refine q_if_le o_M_toldHere_63 (fun c11 => ?_) (fun c11 => ?_)
        · refine q_iload_n o_M_toldHere_70 rfl ?_
          exact hJ _ (Eq.symm (if_pos c11))
        · refine q_iconst (v := 0) o_M_toldHere_66 (by decide) ?_
          refine q_goto o_M_toldHere_67 ?_
          exact hJ _ (Eq.symm (if_neg c11))
      · have h12 := h5.2 c9
        refine q_iload_n o_M_toldHere_45 rfl ?_
        refine q_iconst (v := 0) o_M_toldHere_46 (by decide) ?_
        refine q_iconst (v := 5) o_M_toldHere_47 (by decide) ?_
        refine q2_callSi _ (As := [.int (x8 - p1), .int 0, .int 5]) (st := []) hs7 o_M_toldHere_48 k_M_227 rfl (Nat.le_of_ble_eq_true rfl) h12 (fun x16 σ14 hs15 h13 => ?_)
        refine q_if_ne o_M_toldHere_51 (fun c17 => ?_) (fun c17 => ?_)
        · have h18 := h13.1 c17
          refine q_aload_n o_M_toldHere_59 rfl ?_
          refine q2_getI hs15 o_M_toldHere_60 f_M_188 rfl ?_
          have hJ : ∀ vJ : Int32, vJ = (if (q_I σ14 159 8) ≤ 0 then (x8 - p1) else (0 : Int32)) → q_At G X_M_toldHere (d + 1) 0 0 71 [some (.ref 159), some (.int p0), some (.int p1), some (.int (x8 - p1))] [.int vJ] σ14 Q := by
            intro vJ eJ
            rw [eJ]
            clear eJ vJ
            exact q_ire o_M_toldHere_71 rfl h18
          refine q_if_le o_M_toldHere_63 (fun c19 => ?_) (fun c19 => ?_)
          · refine q_iload_n o_M_toldHere_70 rfl ?_
            exact hJ _ (Eq.symm (if_pos c19))
          · refine q_iconst (v := 0) o_M_toldHere_66 (by decide) ?_
            refine q_goto o_M_toldHere_67 ?_
            exact hJ _ (Eq.symm (if_neg c19))
        · have h20 := h13.2 c17
          refine q_aload_n o_M_toldHere_54 rfl ?_
          refine q_iconst (v := 2) o_M_toldHere_55 (by decide) ?_
          refine q2_callVv _ (a := 159) (As := [.int 2]) (st := []) hs15 o_M_toldHere_56 k_M_194 rfl rfl (Nat.le_of_ble_eq_true rfl) h20 (fun σ22 hs23 h21 => ?_)
          refine q_aload_n o_M_toldHere_59 rfl ?_
          refine q2_getI hs23 o_M_toldHere_60 f_M_188 rfl ?_
          have hJ : ∀ vJ : Int32, vJ = (if (q_I σ22 159 8) ≤ 0 then (x8 - p1) else (0 : Int32)) → q_At G X_M_toldHere (d + 1) 0 0 71 [some (.ref 159), some (.int p0), some (.int p1), some (.int (x8 - p1))] [.int vJ] σ22 Q := by
            intro vJ eJ
            rw [eJ]
            clear eJ vJ
            exact q_ire o_M_toldHere_71 rfl h21
          refine q_if_le o_M_toldHere_63 (fun c24 => ?_) (fun c24 => ?_)
          · refine q_iload_n o_M_toldHere_70 rfl ?_
            exact hJ _ (Eq.symm (if_pos c24))
          · refine q_iconst (v := 0) o_M_toldHere_66 (by decide) ?_
            refine q_goto o_M_toldHere_67 ?_
            exact hJ _ (Eq.symm (if_neg c24))
    · have h25 := h2.2 c3
      refine q_iconst (v := (-1)) o_M_toldHere_26 (by decide) ?_
      refine q_goto o_M_toldHere_27 ?_
      refine q2_istn (ls' := [some (.ref 159), some (.int p0), some (.int p1), some (.int (-1))]) o_M_toldHere_37 (Nat.le_of_ble_eq_true rfl) rfl ?_
      refine q_aload_n o_M_toldHere_38 rfl ?_
      refine q2_getI hs o_M_toldHere_39 f_M_188 rfl ?_
      refine q_if_ne o_M_toldHere_42 (fun c26 => ?_) (fun c26 => ?_)
      · have h27 := h25.1 c26
        refine q_aload_n o_M_toldHere_59 rfl ?_
        refine q2_getI hs o_M_toldHere_60 f_M_188 rfl ?_
        have hJ : ∀ vJ : Int32, vJ = (if (q_I σ 159 8) ≤ 0 then ((-1) : Int32) else (0 : Int32)) → q_At G X_M_toldHere (d + 1) 0 0 71 [some (.ref 159), some (.int p0), some (.int p1), some (.int (-1))] [.int vJ] σ Q := by
          intro vJ eJ
          rw [eJ]
          clear eJ vJ
          exact q_ire o_M_toldHere_71 rfl h27
        refine q_if_le o_M_toldHere_63 (fun c28 => ?_) (fun c28 => ?_)
        · refine q_iload_n o_M_toldHere_70 rfl ?_
          exact hJ _ (Eq.symm (if_pos c28))
        · refine q_iconst (v := 0) o_M_toldHere_66 (by decide) ?_
          refine q_goto o_M_toldHere_67 ?_
          exact hJ _ (Eq.symm (if_neg c28))
      · have h29 := h25.2 c26
        refine q_iload_n o_M_toldHere_45 rfl ?_
        refine q_iconst (v := 0) o_M_toldHere_46 (by decide) ?_
        refine q_iconst (v := 5) o_M_toldHere_47 (by decide) ?_
        refine q2_callSi _ (As := [.int (-1), .int 0, .int 5]) (st := []) hs o_M_toldHere_48 k_M_227 rfl (Nat.le_of_ble_eq_true rfl) h29 (fun x33 σ31 hs32 h30 => ?_)
        refine q_if_ne o_M_toldHere_51 (fun c34 => ?_) (fun c34 => ?_)
        · have h35 := h30.1 c34
          refine q_aload_n o_M_toldHere_59 rfl ?_
          refine q2_getI hs32 o_M_toldHere_60 f_M_188 rfl ?_
          have hJ : ∀ vJ : Int32, vJ = (if (q_I σ31 159 8) ≤ 0 then ((-1) : Int32) else (0 : Int32)) → q_At G X_M_toldHere (d + 1) 0 0 71 [some (.ref 159), some (.int p0), some (.int p1), some (.int (-1))] [.int vJ] σ31 Q := by
            intro vJ eJ
            rw [eJ]
            clear eJ vJ
            exact q_ire o_M_toldHere_71 rfl h35
          refine q_if_le o_M_toldHere_63 (fun c36 => ?_) (fun c36 => ?_)
          · refine q_iload_n o_M_toldHere_70 rfl ?_
            exact hJ _ (Eq.symm (if_pos c36))
          · refine q_iconst (v := 0) o_M_toldHere_66 (by decide) ?_
            refine q_goto o_M_toldHere_67 ?_
            exact hJ _ (Eq.symm (if_neg c36))
        · have h37 := h30.2 c34
          refine q_aload_n o_M_toldHere_54 rfl ?_
          refine q_iconst (v := 2) o_M_toldHere_55 (by decide) ?_
          refine q2_callVv _ (a := 159) (As := [.int 2]) (st := []) hs32 o_M_toldHere_56 k_M_194 rfl rfl (Nat.le_of_ble_eq_true rfl) h37 (fun σ39 hs40 h38 => ?_)
          refine q_aload_n o_M_toldHere_59 rfl ?_
          refine q2_getI hs40 o_M_toldHere_60 f_M_188 rfl ?_
          have hJ : ∀ vJ : Int32, vJ = (if (q_I σ39 159 8) ≤ 0 then ((-1) : Int32) else (0 : Int32)) → q_At G X_M_toldHere (d + 1) 0 0 71 [some (.ref 159), some (.int p0), some (.int p1), some (.int (-1))] [.int vJ] σ39 Q := by
            intro vJ eJ
            rw [eJ]
            clear eJ vJ
            exact q_ire o_M_toldHere_71 rfl h38
          refine q_if_le o_M_toldHere_63 (fun c41 => ?_) (fun c41 => ?_)
          · refine q_iload_n o_M_toldHere_70 rfl ?_
            exact hJ _ (Eq.symm (if_pos c41))
          · refine q_iconst (v := 0) o_M_toldHere_66 (by decide) ?_
            refine q_goto o_M_toldHere_67 ?_
            exact hJ _ (Eq.symm (if_neg c41))
  · have h42 := h.2 c1
    refine q_aload_n o_M_toldHere_7 rfl ?_
    refine q2_callVi _ (a := 159) (As := []) (st := []) hs o_M_toldHere_8 k_M_219 rfl rfl (Nat.le_of_ble_eq_true rfl) h42 (fun x46 σ44 hs45 h43 => ?_)
    refine q_if_ne o_M_toldHere_11 (fun c47 => ?_) (fun c47 => ?_)
    · have h48 := h43.1 c47
      refine q_aload_n o_M_toldHere_19 rfl ?_
      refine q2_getI hs45 o_M_toldHere_20 f_M_188 rfl ?_
      refine q_if_le o_M_toldHere_23 (fun c49 => ?_) (fun c49 => ?_)
      · have h50 := h48.1 c49
        refine q_aload_n o_M_toldHere_30 rfl ?_
        refine q_iload_n o_M_toldHere_31 rfl ?_
        refine q2_callVi _ (a := 159) (As := [.int p0]) (st := []) hs45 o_M_toldHere_32 k_M_223 rfl rfl (Nat.le_of_ble_eq_true rfl) h50 (fun x54 σ52 hs53 h51 => ?_)
        refine q_iload_n o_M_toldHere_35 rfl ?_
        refine q_isub o_M_toldHere_36 ?_
        refine q2_istn (ls' := [some (.ref 159), some (.int p0), some (.int p1), some (.int (x54 - p1))]) o_M_toldHere_37 (Nat.le_of_ble_eq_true rfl) rfl ?_
        refine q_aload_n o_M_toldHere_38 rfl ?_
        refine q2_getI hs53 o_M_toldHere_39 f_M_188 rfl ?_
        refine q_if_ne o_M_toldHere_42 (fun c55 => ?_) (fun c55 => ?_)
        · have h56 := h51.1 c55
          refine q_aload_n o_M_toldHere_59 rfl ?_
          refine q2_getI hs53 o_M_toldHere_60 f_M_188 rfl ?_
          have hJ : ∀ vJ : Int32, vJ = (if (q_I σ52 159 8) ≤ 0 then (x54 - p1) else (0 : Int32)) → q_At G X_M_toldHere (d + 1) 0 0 71 [some (.ref 159), some (.int p0), some (.int p1), some (.int (x54 - p1))] [.int vJ] σ52 Q := by
            intro vJ eJ
            rw [eJ]
            clear eJ vJ
            exact q_ire o_M_toldHere_71 rfl h56
          refine q_if_le o_M_toldHere_63 (fun c57 => ?_) (fun c57 => ?_)
          · refine q_iload_n o_M_toldHere_70 rfl ?_
            exact hJ _ (Eq.symm (if_pos c57))
          · refine q_iconst (v := 0) o_M_toldHere_66 (by decide) ?_
            refine q_goto o_M_toldHere_67 ?_
            exact hJ _ (Eq.symm (if_neg c57))
        · have h58 := h51.2 c55
          refine q_iload_n o_M_toldHere_45 rfl ?_
          refine q_iconst (v := 0) o_M_toldHere_46 (by decide) ?_
          refine q_iconst (v := 5) o_M_toldHere_47 (by decide) ?_
          refine q2_callSi _ (As := [.int (x54 - p1), .int 0, .int 5]) (st := []) hs53 o_M_toldHere_48 k_M_227 rfl (Nat.le_of_ble_eq_true rfl) h58 (fun x62 σ60 hs61 h59 => ?_)
          refine q_if_ne o_M_toldHere_51 (fun c63 => ?_) (fun c63 => ?_)
          · have h64 := h59.1 c63
            refine q_aload_n o_M_toldHere_59 rfl ?_
            refine q2_getI hs61 o_M_toldHere_60 f_M_188 rfl ?_
            have hJ : ∀ vJ : Int32, vJ = (if (q_I σ60 159 8) ≤ 0 then (x54 - p1) else (0 : Int32)) → q_At G X_M_toldHere (d + 1) 0 0 71 [some (.ref 159), some (.int p0), some (.int p1), some (.int (x54 - p1))] [.int vJ] σ60 Q := by
              intro vJ eJ
              rw [eJ]
              clear eJ vJ
              exact q_ire o_M_toldHere_71 rfl h64
            refine q_if_le o_M_toldHere_63 (fun c65 => ?_) (fun c65 => ?_)
            · refine q_iload_n o_M_toldHere_70 rfl ?_
              exact hJ _ (Eq.symm (if_pos c65))
            · refine q_iconst (v := 0) o_M_toldHere_66 (by decide) ?_
              refine q_goto o_M_toldHere_67 ?_
              exact hJ _ (Eq.symm (if_neg c65))
          · have h66 := h59.2 c63
            refine q_aload_n o_M_toldHere_54 rfl ?_
            refine q_iconst (v := 2) o_M_toldHere_55 (by decide) ?_
            refine q2_callVv _ (a := 159) (As := [.int 2]) (st := []) hs61 o_M_toldHere_56 k_M_194 rfl rfl (Nat.le_of_ble_eq_true rfl) h66 (fun σ68 hs69 h67 => ?_)
            refine q_aload_n o_M_toldHere_59 rfl ?_
            refine q2_getI hs69 o_M_toldHere_60 f_M_188 rfl ?_
            have hJ : ∀ vJ : Int32, vJ = (if (q_I σ68 159 8) ≤ 0 then (x54 - p1) else (0 : Int32)) → q_At G X_M_toldHere (d + 1) 0 0 71 [some (.ref 159), some (.int p0), some (.int p1), some (.int (x54 - p1))] [.int vJ] σ68 Q := by
              intro vJ eJ
              rw [eJ]
              clear eJ vJ
              exact q_ire o_M_toldHere_71 rfl h67
            refine q_if_le o_M_toldHere_63 (fun c70 => ?_) (fun c70 => ?_)
            · refine q_iload_n o_M_toldHere_70 rfl ?_
              exact hJ _ (Eq.symm (if_pos c70))
            · refine q_iconst (v := 0) o_M_toldHere_66 (by decide) ?_
              refine q_goto o_M_toldHere_67 ?_
              exact hJ _ (Eq.symm (if_neg c70))
      · have h71 := h48.2 c49
        refine q_iconst (v := (-1)) o_M_toldHere_26 (by decide) ?_
        refine q_goto o_M_toldHere_27 ?_
        refine q2_istn (ls' := [some (.ref 159), some (.int p0), some (.int p1), some (.int (-1))]) o_M_toldHere_37 (Nat.le_of_ble_eq_true rfl) rfl ?_
        refine q_aload_n o_M_toldHere_38 rfl ?_
        refine q2_getI hs45 o_M_toldHere_39 f_M_188 rfl ?_
        refine q_if_ne o_M_toldHere_42 (fun c72 => ?_) (fun c72 => ?_)
        · have h73 := h71.1 c72
          refine q_aload_n o_M_toldHere_59 rfl ?_
          refine q2_getI hs45 o_M_toldHere_60 f_M_188 rfl ?_
          have hJ : ∀ vJ : Int32, vJ = (if (q_I σ44 159 8) ≤ 0 then ((-1) : Int32) else (0 : Int32)) → q_At G X_M_toldHere (d + 1) 0 0 71 [some (.ref 159), some (.int p0), some (.int p1), some (.int (-1))] [.int vJ] σ44 Q := by
            intro vJ eJ
            rw [eJ]
            clear eJ vJ
            exact q_ire o_M_toldHere_71 rfl h73
          refine q_if_le o_M_toldHere_63 (fun c74 => ?_) (fun c74 => ?_)
          · refine q_iload_n o_M_toldHere_70 rfl ?_
            exact hJ _ (Eq.symm (if_pos c74))
          · refine q_iconst (v := 0) o_M_toldHere_66 (by decide) ?_
            refine q_goto o_M_toldHere_67 ?_
            exact hJ _ (Eq.symm (if_neg c74))
        · have h75 := h71.2 c72
          refine q_iload_n o_M_toldHere_45 rfl ?_
          refine q_iconst (v := 0) o_M_toldHere_46 (by decide) ?_
          refine q_iconst (v := 5) o_M_toldHere_47 (by decide) ?_
          refine q2_callSi _ (As := [.int (-1), .int 0, .int 5]) (st := []) hs45 o_M_toldHere_48 k_M_227 rfl (Nat.le_of_ble_eq_true rfl) h75 (fun x79 σ77 hs78 h76 => ?_)
          refine q_if_ne o_M_toldHere_51 (fun c80 => ?_) (fun c80 => ?_)
          · have h81 := h76.1 c80
            refine q_aload_n o_M_toldHere_59 rfl ?_
            refine q2_getI hs78 o_M_toldHere_60 f_M_188 rfl ?_
            have hJ : ∀ vJ : Int32, vJ = (if (q_I σ77 159 8) ≤ 0 then ((-1) : Int32) else (0 : Int32)) → q_At G X_M_toldHere (d + 1) 0 0 71 [some (.ref 159), some (.int p0), some (.int p1), some (.int (-1))] [.int vJ] σ77 Q := by
              intro vJ eJ
              rw [eJ]
              clear eJ vJ
              exact q_ire o_M_toldHere_71 rfl h81
            refine q_if_le o_M_toldHere_63 (fun c82 => ?_) (fun c82 => ?_)
            · refine q_iload_n o_M_toldHere_70 rfl ?_
              exact hJ _ (Eq.symm (if_pos c82))
            · refine q_iconst (v := 0) o_M_toldHere_66 (by decide) ?_
              refine q_goto o_M_toldHere_67 ?_
              exact hJ _ (Eq.symm (if_neg c82))
          · have h83 := h76.2 c80
            refine q_aload_n o_M_toldHere_54 rfl ?_
            refine q_iconst (v := 2) o_M_toldHere_55 (by decide) ?_
            refine q2_callVv _ (a := 159) (As := [.int 2]) (st := []) hs78 o_M_toldHere_56 k_M_194 rfl rfl (Nat.le_of_ble_eq_true rfl) h83 (fun σ85 hs86 h84 => ?_)
            refine q_aload_n o_M_toldHere_59 rfl ?_
            refine q2_getI hs86 o_M_toldHere_60 f_M_188 rfl ?_
            have hJ : ∀ vJ : Int32, vJ = (if (q_I σ85 159 8) ≤ 0 then ((-1) : Int32) else (0 : Int32)) → q_At G X_M_toldHere (d + 1) 0 0 71 [some (.ref 159), some (.int p0), some (.int p1), some (.int (-1))] [.int vJ] σ85 Q := by
              intro vJ eJ
              rw [eJ]
              clear eJ vJ
              exact q_ire o_M_toldHere_71 rfl h84
            refine q_if_le o_M_toldHere_63 (fun c87 => ?_) (fun c87 => ?_)
            · refine q_iload_n o_M_toldHere_70 rfl ?_
              exact hJ _ (Eq.symm (if_pos c87))
            · refine q_iconst (v := 0) o_M_toldHere_66 (by decide) ?_
              refine q_goto o_M_toldHere_67 ?_
              exact hJ _ (Eq.symm (if_neg c87))
    · have h88 := h43.2 c47
      refine q_aload_n o_M_toldHere_14 rfl ?_
      refine q_iconst (v := 1) o_M_toldHere_15 (by decide) ?_
      refine q2_callVv _ (a := 159) (As := [.int 1]) (st := []) hs45 o_M_toldHere_16 k_M_194 rfl rfl (Nat.le_of_ble_eq_true rfl) h88 (fun σ90 hs91 h89 => ?_)
      refine q_aload_n o_M_toldHere_19 rfl ?_
      refine q2_getI hs91 o_M_toldHere_20 f_M_188 rfl ?_
      refine q_if_le o_M_toldHere_23 (fun c92 => ?_) (fun c92 => ?_)
      · have h93 := h89.1 c92
        refine q_aload_n o_M_toldHere_30 rfl ?_
        refine q_iload_n o_M_toldHere_31 rfl ?_
        refine q2_callVi _ (a := 159) (As := [.int p0]) (st := []) hs91 o_M_toldHere_32 k_M_223 rfl rfl (Nat.le_of_ble_eq_true rfl) h93 (fun x97 σ95 hs96 h94 => ?_)
        refine q_iload_n o_M_toldHere_35 rfl ?_
        refine q_isub o_M_toldHere_36 ?_
        refine q2_istn (ls' := [some (.ref 159), some (.int p0), some (.int p1), some (.int (x97 - p1))]) o_M_toldHere_37 (Nat.le_of_ble_eq_true rfl) rfl ?_
        refine q_aload_n o_M_toldHere_38 rfl ?_
        refine q2_getI hs96 o_M_toldHere_39 f_M_188 rfl ?_
        refine q_if_ne o_M_toldHere_42 (fun c98 => ?_) (fun c98 => ?_)
        · have h99 := h94.1 c98
          refine q_aload_n o_M_toldHere_59 rfl ?_
          refine q2_getI hs96 o_M_toldHere_60 f_M_188 rfl ?_
          have hJ : ∀ vJ : Int32, vJ = (if (q_I σ95 159 8) ≤ 0 then (x97 - p1) else (0 : Int32)) → q_At G X_M_toldHere (d + 1) 0 0 71 [some (.ref 159), some (.int p0), some (.int p1), some (.int (x97 - p1))] [.int vJ] σ95 Q := by
            intro vJ eJ
            rw [eJ]
            clear eJ vJ
            exact q_ire o_M_toldHere_71 rfl h99
          refine q_if_le o_M_toldHere_63 (fun c100 => ?_) (fun c100 => ?_)
          · refine q_iload_n o_M_toldHere_70 rfl ?_
            exact hJ _ (Eq.symm (if_pos c100))
          · refine q_iconst (v := 0) o_M_toldHere_66 (by decide) ?_
            refine q_goto o_M_toldHere_67 ?_
            exact hJ _ (Eq.symm (if_neg c100))
        · have h101 := h94.2 c98
          refine q_iload_n o_M_toldHere_45 rfl ?_
          refine q_iconst (v := 0) o_M_toldHere_46 (by decide) ?_
          refine q_iconst (v := 5) o_M_toldHere_47 (by decide) ?_
          refine q2_callSi _ (As := [.int (x97 - p1), .int 0, .int 5]) (st := []) hs96 o_M_toldHere_48 k_M_227 rfl (Nat.le_of_ble_eq_true rfl) h101 (fun x105 σ103 hs104 h102 => ?_)
          refine q_if_ne o_M_toldHere_51 (fun c106 => ?_) (fun c106 => ?_)
          · have h107 := h102.1 c106
            refine q_aload_n o_M_toldHere_59 rfl ?_
            refine q2_getI hs104 o_M_toldHere_60 f_M_188 rfl ?_
            have hJ : ∀ vJ : Int32, vJ = (if (q_I σ103 159 8) ≤ 0 then (x97 - p1) else (0 : Int32)) → q_At G X_M_toldHere (d + 1) 0 0 71 [some (.ref 159), some (.int p0), some (.int p1), some (.int (x97 - p1))] [.int vJ] σ103 Q := by
              intro vJ eJ
              rw [eJ]
              clear eJ vJ
              exact q_ire o_M_toldHere_71 rfl h107
            refine q_if_le o_M_toldHere_63 (fun c108 => ?_) (fun c108 => ?_)
            · refine q_iload_n o_M_toldHere_70 rfl ?_
              exact hJ _ (Eq.symm (if_pos c108))
            · refine q_iconst (v := 0) o_M_toldHere_66 (by decide) ?_
              refine q_goto o_M_toldHere_67 ?_
              exact hJ _ (Eq.symm (if_neg c108))
          · have h109 := h102.2 c106
            refine q_aload_n o_M_toldHere_54 rfl ?_
            refine q_iconst (v := 2) o_M_toldHere_55 (by decide) ?_
            refine q2_callVv _ (a := 159) (As := [.int 2]) (st := []) hs104 o_M_toldHere_56 k_M_194 rfl rfl (Nat.le_of_ble_eq_true rfl) h109 (fun σ111 hs112 h110 => ?_)
            refine q_aload_n o_M_toldHere_59 rfl ?_
            refine q2_getI hs112 o_M_toldHere_60 f_M_188 rfl ?_
            have hJ : ∀ vJ : Int32, vJ = (if (q_I σ111 159 8) ≤ 0 then (x97 - p1) else (0 : Int32)) → q_At G X_M_toldHere (d + 1) 0 0 71 [some (.ref 159), some (.int p0), some (.int p1), some (.int (x97 - p1))] [.int vJ] σ111 Q := by
              intro vJ eJ
              rw [eJ]
              clear eJ vJ
              exact q_ire o_M_toldHere_71 rfl h110
            refine q_if_le o_M_toldHere_63 (fun c113 => ?_) (fun c113 => ?_)
            · refine q_iload_n o_M_toldHere_70 rfl ?_
              exact hJ _ (Eq.symm (if_pos c113))
            · refine q_iconst (v := 0) o_M_toldHere_66 (by decide) ?_
              refine q_goto o_M_toldHere_67 ?_
              exact hJ _ (Eq.symm (if_neg c113))
      · have h114 := h89.2 c92
        refine q_iconst (v := (-1)) o_M_toldHere_26 (by decide) ?_
        refine q_goto o_M_toldHere_27 ?_
        refine q2_istn (ls' := [some (.ref 159), some (.int p0), some (.int p1), some (.int (-1))]) o_M_toldHere_37 (Nat.le_of_ble_eq_true rfl) rfl ?_
        refine q_aload_n o_M_toldHere_38 rfl ?_
        refine q2_getI hs91 o_M_toldHere_39 f_M_188 rfl ?_
        refine q_if_ne o_M_toldHere_42 (fun c115 => ?_) (fun c115 => ?_)
        · have h116 := h114.1 c115
          refine q_aload_n o_M_toldHere_59 rfl ?_
          refine q2_getI hs91 o_M_toldHere_60 f_M_188 rfl ?_
          have hJ : ∀ vJ : Int32, vJ = (if (q_I σ90 159 8) ≤ 0 then ((-1) : Int32) else (0 : Int32)) → q_At G X_M_toldHere (d + 1) 0 0 71 [some (.ref 159), some (.int p0), some (.int p1), some (.int (-1))] [.int vJ] σ90 Q := by
            intro vJ eJ
            rw [eJ]
            clear eJ vJ
            exact q_ire o_M_toldHere_71 rfl h116
          refine q_if_le o_M_toldHere_63 (fun c117 => ?_) (fun c117 => ?_)
          · refine q_iload_n o_M_toldHere_70 rfl ?_
            exact hJ _ (Eq.symm (if_pos c117))
          · refine q_iconst (v := 0) o_M_toldHere_66 (by decide) ?_
            refine q_goto o_M_toldHere_67 ?_
            exact hJ _ (Eq.symm (if_neg c117))
        · have h118 := h114.2 c115
          refine q_iload_n o_M_toldHere_45 rfl ?_
          refine q_iconst (v := 0) o_M_toldHere_46 (by decide) ?_
          refine q_iconst (v := 5) o_M_toldHere_47 (by decide) ?_
          refine q2_callSi _ (As := [.int (-1), .int 0, .int 5]) (st := []) hs91 o_M_toldHere_48 k_M_227 rfl (Nat.le_of_ble_eq_true rfl) h118 (fun x122 σ120 hs121 h119 => ?_)
          refine q_if_ne o_M_toldHere_51 (fun c123 => ?_) (fun c123 => ?_)
          · have h124 := h119.1 c123
            refine q_aload_n o_M_toldHere_59 rfl ?_
            refine q2_getI hs121 o_M_toldHere_60 f_M_188 rfl ?_
            have hJ : ∀ vJ : Int32, vJ = (if (q_I σ120 159 8) ≤ 0 then ((-1) : Int32) else (0 : Int32)) → q_At G X_M_toldHere (d + 1) 0 0 71 [some (.ref 159), some (.int p0), some (.int p1), some (.int (-1))] [.int vJ] σ120 Q := by
              intro vJ eJ
              rw [eJ]
              clear eJ vJ
              exact q_ire o_M_toldHere_71 rfl h124
            refine q_if_le o_M_toldHere_63 (fun c125 => ?_) (fun c125 => ?_)
            · refine q_iload_n o_M_toldHere_70 rfl ?_
              exact hJ _ (Eq.symm (if_pos c125))
            · refine q_iconst (v := 0) o_M_toldHere_66 (by decide) ?_
              refine q_goto o_M_toldHere_67 ?_
              exact hJ _ (Eq.symm (if_neg c125))
          · have h126 := h119.2 c123
            refine q_aload_n o_M_toldHere_54 rfl ?_
            refine q_iconst (v := 2) o_M_toldHere_55 (by decide) ?_
            refine q2_callVv _ (a := 159) (As := [.int 2]) (st := []) hs121 o_M_toldHere_56 k_M_194 rfl rfl (Nat.le_of_ble_eq_true rfl) h126 (fun σ128 hs129 h127 => ?_)
            refine q_aload_n o_M_toldHere_59 rfl ?_
            refine q2_getI hs129 o_M_toldHere_60 f_M_188 rfl ?_
            have hJ : ∀ vJ : Int32, vJ = (if (q_I σ128 159 8) ≤ 0 then ((-1) : Int32) else (0 : Int32)) → q_At G X_M_toldHere (d + 1) 0 0 71 [some (.ref 159), some (.int p0), some (.int p1), some (.int (-1))] [.int vJ] σ128 Q := by
              intro vJ eJ
              rw [eJ]
              clear eJ vJ
              exact q_ire o_M_toldHere_71 rfl h127
            refine q_if_le o_M_toldHere_63 (fun c130 => ?_) (fun c130 => ?_)
            · refine q_iload_n o_M_toldHere_70 rfl ?_
              exact hJ _ (Eq.symm (if_pos c130))
            · refine q_iconst (v := 0) o_M_toldHere_66 (by decide) ?_
              refine q_goto o_M_toldHere_67 ?_
              exact hJ _ (Eq.symm (if_neg c130))

set_option maxRecDepth 20000 in
theorem v_M_takeTold_0 {G : q_G} {d : Nat} {σ : q_S} {Q : Option Value → q_S → Prop} {p0 : Int32} {p1 : Int32}  (hs : q_Sh σ) (h : q_Call G d 0 0 X_M_toldHere [.ref 159, .int p0, .int p1] σ (q_ri (fun x4 σ2 => Q (some (.int x4)) (q_setI σ2 159 7 ((q_I σ2 159 7) + (if (q_I σ2 159 8) ≤ 0 then (1 : Int32) else (0 : Int32))))))) : q_At G X_M_takeTold (d + 1) 0 0 0 [some (.ref 159), some (.int p0), some (.int p1), none] [] σ Q := by
  refine q_aload_n o_M_takeTold_0 rfl ?_
  refine q_iload_n o_M_takeTold_1 rfl ?_
  refine q_iload_n o_M_takeTold_2 rfl ?_
  refine q2_callVi _ (a := 159) (As := [.int p0, .int p1]) (st := []) hs o_M_takeTold_3 k_M_231 rfl rfl (Nat.le_of_ble_eq_true rfl) h (fun x4 σ2 hs3 h1 => ?_)
  refine q2_istn (ls' := [some (.ref 159), some (.int p0), some (.int p1), some (.int x4)]) o_M_takeTold_6 (Nat.le_of_ble_eq_true rfl) rfl ?_
  refine q_aload_n o_M_takeTold_7 rfl ?_
  refine q_dup o_M_takeTold_8 rfl ?_
  refine q2_getI hs3 o_M_takeTold_9 f_M_185 rfl ?_
  refine q_aload_n o_M_takeTold_12 rfl ?_
  refine q2_getI hs3 o_M_takeTold_13 f_M_188 rfl ?_
  have hJ : ∀ vJ : Int32, vJ = (if (q_I σ2 159 8) ≤ 0 then (1 : Int32) else (0 : Int32)) → q_At G X_M_takeTold (d + 1) 0 0 24 [some (.ref 159), some (.int p0), some (.int p1), some (.int x4)] [.int vJ, .int (q_I σ2 159 7), .ref 159] σ2 Q := by
    intro vJ eJ
    rw [eJ]
    clear eJ vJ
    refine q_iadd o_M_takeTold_24 ?_
    refine q2_putI hs3 o_M_takeTold_25 fp_M_185 rfl rfl rfl ?_
    refine q_iload_n o_M_takeTold_28 rfl ?_
    exact q_ire o_M_takeTold_29 rfl h1
  refine q_if_le o_M_takeTold_16 (fun c5 => ?_) (fun c5 => ?_)
  · refine q_iconst (v := 1) o_M_takeTold_23 (by decide) ?_
    exact hJ _ (Eq.symm (if_pos c5))
  · refine q_iconst (v := 0) o_M_takeTold_19 (by decide) ?_
    refine q_goto o_M_takeTold_20 ?_
    exact hJ _ (Eq.symm (if_neg c5))

set_option maxRecDepth 20000 in
theorem v_M_town_0 {G : q_G} {d : Nat} {σ : q_S} {Q : Option Value → q_S → Prop}   (hs : q_Sh σ) (h : q_Call G d 0 0 X_M_cutAll [.ref 159] (q_setI σ 159 0 0) (q_rv (fun σ2 => q_Call G d 0 0 X_M_standsAsAlways [.ref 159, .int 200] (q_setI (q_setI σ2 159 13 0) 159 19 0) (q_rv (fun σ5 => q_At G X_M_town (d + 1) 0 0 26 [some (.ref 159), none] [] σ5 Q))))) : q_At G X_M_town (d + 1) 0 0 0 [some (.ref 159), none] [] σ Q := by
  refine q_aload_n o_M_town_0 rfl ?_
  refine q_iconst (v := 0) o_M_town_1 (by decide) ?_
  refine q2_putI hs o_M_town_2 fp_M_1 rfl rfl rfl ?_
  refine q_aload_n o_M_town_5 rfl ?_
  refine q2_callVv _ (a := 159) (As := []) (st := []) hs o_M_town_6 k_M_235 rfl rfl (Nat.le_of_ble_eq_true rfl) h (fun σ2 hs3 h1 => ?_)
  refine q_aload_n o_M_town_9 rfl ?_
  refine q_iconst (v := 0) o_M_town_10 (by decide) ?_
  refine q2_putI hs3 o_M_town_11 fp_M_238 rfl rfl rfl ?_
  refine q_aload_n o_M_town_14 rfl ?_
  refine q_iconst (v := 0) o_M_town_15 (by decide) ?_
  refine q2_putI hs3 o_M_town_16 fp_M_213 rfl rfl rfl ?_
  refine q_aload_n o_M_town_19 rfl ?_
  refine q_sipush (v := 200) o_M_town_20 (by decide) ?_
  refine q2_callVv _ (a := 159) (As := [.int 200]) (st := []) hs3 o_M_town_23 k_M_155 rfl rfl (Nat.le_of_ble_eq_true rfl) h1 (fun σ5 hs6 h4 => ?_)
  exact h4

set_option maxRecDepth 20000 in
theorem v_M_town_26 {G : q_G} {d : Nat} {σ : q_S} {Q : Option Value → q_S → Prop}   (hs : q_Sh σ) (h : ((¬ (q_I σ 159 8) = 0 → (((q_I σ 159 8) ≤ 0 → q_At G X_M_town (d + 1) 0 0 72 [some (.ref 159), some (.int 0)] [] σ Q) ∧ (¬ (q_I σ 159 8) ≤ 0 → Q (some (.int (q_I σ 159 8))) σ))) ∧ ((q_I σ 159 8) = 0 → (∃ k8, (q_I σ 159 7) = nI k8 ∧ k8 < 1002 ∧ (((q_I σ 161 k8) = 0 → (((q_I σ 159 8) ≤ 0 → q_At G X_M_town (d + 1) 0 0 72 [some (.ref 159), some (.int 0)] [] σ Q) ∧ (¬ (q_I σ 159 8) ≤ 0 → Q (some (.int (q_I σ 159 8))) σ))) ∧ (¬ (q_I σ 161 k8) = 0 → q_Call G d 0 0 X_M_readLine [.ref 159] σ (q_rv (fun σ16 => q_Call G d 0 0 X_M_takeSign [.ref 159, .int 59] σ16 (q_rv (fun σ19 => q_At G X_M_town (d + 1) 0 0 26 [some (.ref 159), none] [] σ19 Q)))))))))) : q_At G X_M_town (d + 1) 0 0 26 [some (.ref 159), none] [] σ Q := by
  refine q_aload_n o_M_town_26 rfl ?_
  refine q2_getI hs o_M_town_27 f_M_188 rfl ?_
  refine q_if_ne o_M_town_30 (fun c1 => ?_) (fun c1 => ?_)
  · have h2 := h.1 c1
    refine q_aload_n o_M_town_58 rfl ?_
    refine q2_getI hs o_M_town_59 f_M_188 rfl ?_
    refine q_if_le o_M_town_62 (fun c3 => ?_) (fun c3 => ?_)
    · have h4 := h2.1 c3
      refine q_iconst (v := 0) o_M_town_70 (by decide) ?_
      refine q2_istn (ls' := [some (.ref 159), some (.int 0)]) o_M_town_71 (Nat.le_of_ble_eq_true rfl) rfl ?_
      exact h4
    · have h5 := h2.2 c3
      refine q_aload_n o_M_town_65 rfl ?_
      refine q2_getI hs o_M_town_66 f_M_188 rfl ?_
      exact q_ire o_M_town_69 rfl h5
  · have h6 := h.2 c1
    refine q_aload_n o_M_town_33 rfl ?_
    refine q2_getR hs o_M_town_34 f_M_24 rfl (fz_159_4 hs) ?_
    refine q_aload_n o_M_town_37 rfl ?_
    refine q2_getI hs o_M_town_38 f_M_185 rfl ?_
    obtain ⟨k8, eh7, bh7, h7⟩ := h6
    refine q2_iald hs o_M_town_41 rfl eh7 bh7 (by decide) ?_
    refine q_if_eq o_M_town_42 (fun c9 => ?_) (fun c9 => ?_)
    · have h10 := h7.1 c9
      refine q_aload_n o_M_town_58 rfl ?_
      refine q2_getI hs o_M_town_59 f_M_188 rfl ?_
      refine q_if_le o_M_town_62 (fun c11 => ?_) (fun c11 => ?_)
      · have h12 := h10.1 c11
        refine q_iconst (v := 0) o_M_town_70 (by decide) ?_
        refine q2_istn (ls' := [some (.ref 159), some (.int 0)]) o_M_town_71 (Nat.le_of_ble_eq_true rfl) rfl ?_
        exact h12
      · have h13 := h10.2 c11
        refine q_aload_n o_M_town_65 rfl ?_
        refine q2_getI hs o_M_town_66 f_M_188 rfl ?_
        exact q_ire o_M_town_69 rfl h13
    · have h14 := h7.2 c9
      refine q_aload_n o_M_town_45 rfl ?_
      refine q2_callVv _ (a := 159) (As := []) (st := []) hs o_M_town_46 k_M_241 rfl rfl (Nat.le_of_ble_eq_true rfl) h14 (fun σ16 hs17 h15 => ?_)
      refine q_aload_n o_M_town_49 rfl ?_
      refine q_bipush (v := 59) o_M_town_50 (by decide) ?_
      refine q2_callVv _ (a := 159) (As := [.int 59]) (st := []) hs17 o_M_town_52 k_M_244 rfl rfl (Nat.le_of_ble_eq_true rfl) h15 (fun σ19 hs20 h18 => ?_)
      refine q_goto o_M_town_55 ?_
      exact h18

set_option maxRecDepth 20000 in
theorem v_M_town_72 {G : q_G} {d : Nat} {σ : q_S} {Q : Option Value → q_S → Prop} {l1 : Int32}  (hs : q_Sh σ) (h : ((200 ≤ l1 → q_At G X_M_town (d + 1) 0 0 103 [some (.ref 159), some (.int 0)] [] σ Q) ∧ (¬ 200 ≤ l1 → (∃ k5, (200 + l1) = nI k5 ∧ k5 < 400 ∧ (∃ k7, l1 = nI k7 ∧ k7 < 400 ∧ q_At G X_M_town (d + 1) 0 0 72 [some (.ref 159), some (.int (l1 + 1))] [] (q_setI σ 165 k7 (q_I σ 165 k5)) Q))))) : q_At G X_M_town (d + 1) 0 0 72 [some (.ref 159), some (.int l1)] [] σ Q := by
  refine q_iload_n o_M_town_72 rfl ?_
  refine q_sipush (v := 200) o_M_town_73 (by decide) ?_
  refine q_icmp_ge o_M_town_76 (fun c1 => ?_) (fun c1 => ?_)
  · have h2 := h.1 c1
    refine q_iconst (v := 0) o_M_town_101 (by decide) ?_
    refine q2_istn (ls' := [some (.ref 159), some (.int 0)]) o_M_town_102 (Nat.le_of_ble_eq_true rfl) rfl ?_
    exact h2
  · have h3 := h.2 c1
    refine q_aload_n o_M_town_79 rfl ?_
    refine q2_getR hs o_M_town_80 f_M_103 rfl (fz_159_10 hs) ?_
    refine q_iload_n o_M_town_83 rfl ?_
    refine q_aload_n o_M_town_84 rfl ?_
    refine q2_getR hs o_M_town_85 f_M_103 rfl (fz_159_10 hs) ?_
    refine q_sipush (v := 200) o_M_town_88 (by decide) ?_
    refine q_iload_n o_M_town_91 rfl ?_
    refine q_iadd o_M_town_92 ?_
    obtain ⟨k5, eh4, bh4, h4⟩ := h3
    refine q2_iald hs o_M_town_93 rfl eh4 bh4 (by decide) ?_
    obtain ⟨k7, eh6, bh6, h6⟩ := h4
    refine q2_iast hs o_M_town_94 rfl eh6 bh6 (by decide) ?_
    refine q2_inc (v := (l1 + 1)) (ls' := [some (.ref 159), some (.int (l1 + 1))]) o_M_town_95 rfl rfl (Nat.le_of_ble_eq_true rfl) rfl ?_
    refine q_goto o_M_town_98 ?_
    exact h6

set_option maxRecDepth 20000 in
theorem v_M_town_103 {G : q_G} {d : Nat} {σ : q_S} {Q : Option Value → q_S → Prop} {l1 : Int32}  (hs : q_Sh σ) (h : (((q_I σ 159 13) ≤ l1 → q_At G X_M_town (d + 1) 0 0 151 [some (.ref 159), some (.int 0)] [] σ Q) ∧ (¬ (q_I σ 159 13) ≤ l1 → (∃ k5, (1100 + l1) = nI k5 ∧ k5 < 2200 ∧ (∃ k7, l1 = nI k7 ∧ k7 < 2200 ∧ (∃ k9, (1100 + l1) = nI k9 ∧ k9 < 2200 ∧ (∃ k11, l1 = nI k11 ∧ k11 < 2200 ∧ q_At G X_M_town (d + 1) 0 0 103 [some (.ref 159), some (.int (l1 + 1))] [] (q_setI (q_setI σ 166 k7 (q_I σ 166 k5)) 167 k11 (q_I (q_setI σ 166 k7 (q_I σ 166 k5)) 167 k9)) Q))))))) : q_At G X_M_town (d + 1) 0 0 103 [some (.ref 159), some (.int l1)] [] σ Q := by
  refine q_iload_n o_M_town_103 rfl ?_
  refine q_aload_n o_M_town_104 rfl ?_
  refine q2_getI hs o_M_town_105 f_M_238 rfl ?_
  refine q_icmp_ge o_M_town_108 (fun c1 => ?_) (fun c1 => ?_)
  · have h2 := h.1 c1
    refine q_iconst (v := 0) o_M_town_149 (by decide) ?_
    refine q2_istn (ls' := [some (.ref 159), some (.int 0)]) o_M_town_150 (Nat.le_of_ble_eq_true rfl) rfl ?_
    exact h2
  · have h3 := h.2 c1
    refine q_aload_n o_M_town_111 rfl ?_
    refine q2_getR hs o_M_town_112 f_M_106 rfl (fz_159_11 hs) ?_
    refine q_iload_n o_M_town_115 rfl ?_
    refine q_aload_n o_M_town_116 rfl ?_
    refine q2_getR hs o_M_town_117 f_M_106 rfl (fz_159_11 hs) ?_
    refine q_sipush (v := 1100) o_M_town_120 (by decide) ?_
    refine q_iload_n o_M_town_123 rfl ?_
    refine q_iadd o_M_town_124 ?_
    obtain ⟨k5, eh4, bh4, h4⟩ := h3
    refine q2_iald hs o_M_town_125 rfl eh4 bh4 (by decide) ?_
    obtain ⟨k7, eh6, bh6, h6⟩ := h4
    refine q2_iast hs o_M_town_126 rfl eh6 bh6 (by decide) ?_
    refine q_aload_n o_M_town_127 rfl ?_
    refine q2_getR hs o_M_town_128 f_M_109 rfl (fz_159_12 hs) ?_
    refine q_iload_n o_M_town_131 rfl ?_
    refine q_aload_n o_M_town_132 rfl ?_
    refine q2_getR hs o_M_town_133 f_M_109 rfl (fz_159_12 hs) ?_
    refine q_sipush (v := 1100) o_M_town_136 (by decide) ?_
    refine q_iload_n o_M_town_139 rfl ?_
    refine q_iadd o_M_town_140 ?_
    obtain ⟨k9, eh8, bh8, h8⟩ := h6
    refine q2_iald hs o_M_town_141 rfl eh8 bh8 (by decide) ?_
    obtain ⟨k11, eh10, bh10, h10⟩ := h8
    refine q2_iast hs o_M_town_142 rfl eh10 bh10 (by decide) ?_
    refine q2_inc (v := (l1 + 1)) (ls' := [some (.ref 159), some (.int (l1 + 1))]) o_M_town_143 rfl rfl (Nat.le_of_ble_eq_true rfl) rfl ?_
    refine q_goto o_M_town_146 ?_
    exact h10

set_option maxRecDepth 20000 in
theorem v_M_town_151 {G : q_G} {d : Nat} {σ : q_S} {Q : Option Value → q_S → Prop} {l1 : Int32}  (hs : q_Sh σ) (h : (((q_I σ 159 19) ≤ l1 → q_Call G d 0 0 X_M_begins [.ref 159] (q_setI σ 159 18 (q_I σ 159 19)) (q_rv (fun σ4 => Q (some (.int 0)) σ4))) ∧ (¬ (q_I σ 159 19) ≤ l1 → (∃ k8, l1 = nI k8 ∧ k8 < 12 ∧ (∃ k10, l1 = nI k10 ∧ k10 < 12 ∧ (∃ k12, l1 = nI k12 ∧ k12 < 12 ∧ (∃ k14, l1 = nI k14 ∧ k14 < 12 ∧ q_At G X_M_town (d + 1) 0 0 151 [some (.ref 159), some (.int (l1 + 1))] [] (q_setI (q_setL σ 168 k10 (q_L σ 169 k8)) 170 k14 (q_I (q_setL σ 168 k10 (q_L σ 169 k8)) 171 k12)) Q))))))) : q_At G X_M_town (d + 1) 0 0 151 [some (.ref 159), some (.int l1)] [] σ Q := by
  refine q_iload_n o_M_town_151 rfl ?_
  refine q_aload_n o_M_town_152 rfl ?_
  refine q2_getI hs o_M_town_153 f_M_213 rfl ?_
  refine q_icmp_ge o_M_town_156 (fun c1 => ?_) (fun c1 => ?_)
  · have h2 := h.1 c1
    refine q_aload_n o_M_town_189 rfl ?_
    refine q_aload_n o_M_town_190 rfl ?_
    refine q2_getI hs o_M_town_191 f_M_213 rfl ?_
    refine q2_putI hs o_M_town_194 fp_M_216 rfl rfl rfl ?_
    refine q_aload_n o_M_town_197 rfl ?_
    refine q2_callVv _ (a := 159) (As := []) (st := []) hs o_M_town_198 k_M_159 rfl rfl (Nat.le_of_ble_eq_true rfl) h2 (fun σ4 hs5 h3 => ?_)
    refine q_iconst (v := 0) o_M_town_201 (by decide) ?_
    exact q_ire o_M_town_202 rfl h3
  · have h6 := h.2 c1
    refine q_aload_n o_M_town_159 rfl ?_
    refine q2_getR hs o_M_town_160 f_M_112 rfl (fz_159_14 hs) ?_
    refine q_iload_n o_M_town_163 rfl ?_
    refine q_aload_n o_M_town_164 rfl ?_
    refine q2_getR hs o_M_town_165 f_M_115 rfl (fz_159_15 hs) ?_
    refine q_iload_n o_M_town_168 rfl ?_
    obtain ⟨k8, eh7, bh7, h7⟩ := h6
    refine q2_lald hs o_M_town_169 rfl eh7 bh7 (by decide) ?_
    obtain ⟨k10, eh9, bh9, h9⟩ := h7
    refine q2_last hs o_M_town_170 rfl eh9 bh9 (by decide) ?_
    refine q_aload_n o_M_town_171 rfl ?_
    refine q2_getR hs o_M_town_172 f_M_118 rfl (fz_159_16 hs) ?_
    refine q_iload_n o_M_town_175 rfl ?_
    refine q_aload_n o_M_town_176 rfl ?_
    refine q2_getR hs o_M_town_177 f_M_121 rfl (fz_159_17 hs) ?_
    refine q_iload_n o_M_town_180 rfl ?_
    obtain ⟨k12, eh11, bh11, h11⟩ := h9
    refine q2_iald hs o_M_town_181 rfl eh11 bh11 (by decide) ?_
    obtain ⟨k14, eh13, bh13, h13⟩ := h11
    refine q2_iast hs o_M_town_182 rfl eh13 bh13 (by decide) ?_
    refine q2_inc (v := (l1 + 1)) (ls' := [some (.ref 159), some (.int (l1 + 1))]) o_M_town_183 rfl rfl (Nat.le_of_ble_eq_true rfl) rfl ?_
    refine q_goto o_M_town_186 ?_
    exact h13

set_option maxRecDepth 20000 in
theorem v_M_readLine_0 {G : q_G} {d : Nat} {σ : q_S} {Q : Option Value → q_S → Prop}   (hs : q_Sh σ) (h : q_Call G d 0 0 X_M_isWord [.ref 159, .int 0] σ (q_ri (fun x4 σ2 => ((x4 = 0 → q_Call G d 0 0 X_M_isWord [.ref 159, .int 1] σ2 (q_ri (fun x10 σ8 => ((x10 = 0 → q_Call G d 0 0 X_M_isWord [.ref 159, .int 2] σ8 (q_ri (fun x16 σ14 => ((x16 = 0 → q_Call G d 0 0 X_M_wordHere [.ref 159, .int 6, .int 3] σ14 (q_ri (fun x22 σ20 => ((x22 < 0 → q_Call G d 0 0 X_M_wordHere [.ref 159, .int 9, .int 2] σ20 (q_ri (fun x28 σ26 => ((x28 < 0 → q_Call G d 0 0 X_M_readLaw [.ref 159] σ26 (q_rv (fun σ32 => Q none σ32))) ∧ (¬ x28 < 0 → q_Call G d 0 0 X_M_wordHere [.ref 159, .int 9, .int 2] σ26 (q_ri (fun x38 σ36 => q_Call G d 0 0 X_M_readCustom [.ref 159, .int x38] σ36 (q_rv (fun σ40 => Q none σ40))))))))) ∧ (¬ x22 < 0 → q_Call G d 0 0 X_M_wordHere [.ref 159, .int 6, .int 3] σ20 (q_ri (fun x46 σ44 => q_Call G d 0 0 X_M_readLiking [.ref 159, .int x46] σ44 (q_rv (fun σ48 => Q none σ48))))))))) ∧ (¬ x16 = 0 → q_Call G d 0 0 X_M_readFamily [.ref 159] σ14 (q_rv (fun σ52 => Q none σ52))))))) ∧ (¬ x10 = 0 → q_Call G d 0 0 X_M_readWall [.ref 159] σ8 (q_rv (fun σ56 => Q none σ56))))))) ∧ (¬ x4 = 0 → q_Call G d 0 0 X_M_readHouse [.ref 159] σ2 (q_rv (fun σ60 => Q none σ60))))))) : q_At G X_M_readLine (d + 1) 0 0 0 [some (.ref 159)] [] σ Q := by
  refine q_aload_n o_M_readLine_0 rfl ?_
  refine q_iconst (v := 0) o_M_readLine_1 (by decide) ?_
  refine q2_callVi _ (a := 159) (As := [.int 0]) (st := []) hs o_M_readLine_2 k_M_197 rfl rfl (Nat.le_of_ble_eq_true rfl) h (fun x4 σ2 hs3 h1 => ?_)
  refine q_if_eq o_M_readLine_5 (fun c5 => ?_) (fun c5 => ?_)
  · have h6 := h1.1 c5
    refine q_aload_n o_M_readLine_15 rfl ?_
    refine q_iconst (v := 1) o_M_readLine_16 (by decide) ?_
    refine q2_callVi _ (a := 159) (As := [.int 1]) (st := []) hs3 o_M_readLine_17 k_M_197 rfl rfl (Nat.le_of_ble_eq_true rfl) h6 (fun x10 σ8 hs9 h7 => ?_)
    refine q_if_eq o_M_readLine_20 (fun c11 => ?_) (fun c11 => ?_)
    · have h12 := h7.1 c11
      refine q_aload_n o_M_readLine_30 rfl ?_
      refine q_iconst (v := 2) o_M_readLine_31 (by decide) ?_
      refine q2_callVi _ (a := 159) (As := [.int 2]) (st := []) hs9 o_M_readLine_32 k_M_197 rfl rfl (Nat.le_of_ble_eq_true rfl) h12 (fun x16 σ14 hs15 h13 => ?_)
      refine q_if_eq o_M_readLine_35 (fun c17 => ?_) (fun c17 => ?_)
      · have h18 := h13.1 c17
        refine q_aload_n o_M_readLine_45 rfl ?_
        refine q_bipush (v := 6) o_M_readLine_46 (by decide) ?_
        refine q_iconst (v := 3) o_M_readLine_48 (by decide) ?_
        refine q2_callVi _ (a := 159) (As := [.int 6, .int 3]) (st := []) hs15 o_M_readLine_49 k_M_210 rfl rfl (Nat.le_of_ble_eq_true rfl) h18 (fun x22 σ20 hs21 h19 => ?_)
        refine q_if_lt o_M_readLine_52 (fun c23 => ?_) (fun c23 => ?_)
        · have h24 := h19.1 c23
          refine q_aload_n o_M_readLine_69 rfl ?_
          refine q_bipush (v := 9) o_M_readLine_70 (by decide) ?_
          refine q_iconst (v := 2) o_M_readLine_72 (by decide) ?_
          refine q2_callVi _ (a := 159) (As := [.int 9, .int 2]) (st := []) hs21 o_M_readLine_73 k_M_210 rfl rfl (Nat.le_of_ble_eq_true rfl) h24 (fun x28 σ26 hs27 h25 => ?_)
          refine q_if_lt o_M_readLine_76 (fun c29 => ?_) (fun c29 => ?_)
          · have h30 := h25.1 c29
            refine q_aload_n o_M_readLine_93 rfl ?_
            refine q2_callVv _ (a := 159) (As := []) (st := []) hs27 o_M_readLine_94 k_M_262 rfl rfl (Nat.le_of_ble_eq_true rfl) h30 (fun σ32 hs33 h31 => ?_)
            exact q_vre o_M_readLine_97 rfl h31
          · have h34 := h25.2 c29
            refine q_aload_n o_M_readLine_79 rfl ?_
            refine q_aload_n o_M_readLine_80 rfl ?_
            refine q_bipush (v := 9) o_M_readLine_81 (by decide) ?_
            refine q_iconst (v := 2) o_M_readLine_83 (by decide) ?_
            refine q2_callVi _ (a := 159) (As := [.int 9, .int 2]) (st := [.ref 159]) hs27 o_M_readLine_84 k_M_210 rfl rfl (Nat.le_of_ble_eq_true rfl) h34 (fun x38 σ36 hs37 h35 => ?_)
            refine q2_callVv _ (a := 159) (As := [.int x38]) (st := []) hs37 o_M_readLine_87 k_M_259 rfl rfl (Nat.le_of_ble_eq_true rfl) h35 (fun σ40 hs41 h39 => ?_)
            refine q_goto o_M_readLine_90 ?_
            exact q_vre o_M_readLine_97 rfl h39
        · have h42 := h19.2 c23
          refine q_aload_n o_M_readLine_55 rfl ?_
          refine q_aload_n o_M_readLine_56 rfl ?_
          refine q_bipush (v := 6) o_M_readLine_57 (by decide) ?_
          refine q_iconst (v := 3) o_M_readLine_59 (by decide) ?_
          refine q2_callVi _ (a := 159) (As := [.int 6, .int 3]) (st := [.ref 159]) hs21 o_M_readLine_60 k_M_210 rfl rfl (Nat.le_of_ble_eq_true rfl) h42 (fun x46 σ44 hs45 h43 => ?_)
          refine q2_callVv _ (a := 159) (As := [.int x46]) (st := []) hs45 o_M_readLine_63 k_M_256 rfl rfl (Nat.le_of_ble_eq_true rfl) h43 (fun σ48 hs49 h47 => ?_)
          refine q_goto o_M_readLine_66 ?_
          exact q_vre o_M_readLine_97 rfl h47
      · have h50 := h13.2 c17
        refine q_aload_n o_M_readLine_38 rfl ?_
        refine q2_callVv _ (a := 159) (As := []) (st := []) hs15 o_M_readLine_39 k_M_253 rfl rfl (Nat.le_of_ble_eq_true rfl) h50 (fun σ52 hs53 h51 => ?_)
        refine q_goto o_M_readLine_42 ?_
        exact q_vre o_M_readLine_97 rfl h51
    · have h54 := h7.2 c11
      refine q_aload_n o_M_readLine_23 rfl ?_
      refine q2_callVv _ (a := 159) (As := []) (st := []) hs9 o_M_readLine_24 k_M_250 rfl rfl (Nat.le_of_ble_eq_true rfl) h54 (fun σ56 hs57 h55 => ?_)
      refine q_goto o_M_readLine_27 ?_
      exact q_vre o_M_readLine_97 rfl h55
  · have h58 := h1.2 c5
    refine q_aload_n o_M_readLine_8 rfl ?_
    refine q2_callVv _ (a := 159) (As := []) (st := []) hs3 o_M_readLine_9 k_M_247 rfl rfl (Nat.le_of_ble_eq_true rfl) h58 (fun σ60 hs61 h59 => ?_)
    refine q_goto o_M_readLine_12 ?_
    exact q_vre o_M_readLine_97 rfl h59

set_option maxRecDepth 20000 in
theorem v_M_readName_0 {G : q_G} {d : Nat} {σ : q_S} {Q : Option Value → q_S → Prop} {p0 : Int32}  (hs : q_Sh σ) (h : q_Call G d 0 0 X_M_isName [.ref 159] (q_setI σ 159 7 ((q_I σ 159 7) + 1)) (q_ri (fun x4 σ2 => ((¬ x4 = 0 → q_Call G d 0 0 X_M_find [.ref 159, .int 1] σ2 (q_ri (fun x10 σ8 => ((x10 < 0 → ((¬ (q_I σ8 159 8) = 0 → Q none σ8) ∧ ((q_I σ8 159 8) = 0 → (∃ k17, (q_I σ8 159 7) = nI k17 ∧ k17 < 1002 ∧ (∃ k19, (q_I σ8 159 19) = nI k19 ∧ k19 < 12 ∧ (∃ k21, (q_I (q_setL σ8 169 k19 (q_L σ8 163 k17)) 159 19) = nI k21 ∧ k21 < 12 ∧ Q none (q_setI (q_setI (q_setI (q_setL σ8 169 k19 (q_L σ8 163 k17)) 171 k21 p0) 159 19 ((q_I (q_setI (q_setL σ8 169 k19 (q_L σ8 163 k17)) 171 k21 p0) 159 19) + 1)) 159 7 ((q_I (q_setI (q_setI (q_setL σ8 169 k19 (q_L σ8 163 k17)) 171 k21 p0) 159 19 ((q_I (q_setI (q_setL σ8 169 k19 (q_L σ8 163 k17)) 171 k21 p0) 159 19) + 1)) 159 7) + 1)))))))) ∧ (¬ x10 < 0 → q_Call G d 0 0 X_M_wrong [.ref 159, .int 3] σ8 (q_rv (fun σ24 => ((¬ (q_I σ24 159 8) = 0 → Q none σ24) ∧ ((q_I σ24 159 8) = 0 → (∃ k30, (q_I σ24 159 7) = nI k30 ∧ k30 < 1002 ∧ (∃ k32, (q_I σ24 159 19) = nI k32 ∧ k32 < 12 ∧ (∃ k34, (q_I (q_setL σ24 169 k32 (q_L σ24 163 k30)) 159 19) = nI k34 ∧ k34 < 12 ∧ Q none (q_setI (q_setI (q_setI (q_setL σ24 169 k32 (q_L σ24 163 k30)) 171 k34 p0) 159 19 ((q_I (q_setI (q_setL σ24 169 k32 (q_L σ24 163 k30)) 171 k34 p0) 159 19) + 1)) 159 7 ((q_I (q_setI (q_setI (q_setL σ24 169 k32 (q_L σ24 163 k30)) 171 k34 p0) 159 19 ((q_I (q_setI (q_setL σ24 169 k32 (q_L σ24 163 k30)) 171 k34 p0) 159 19) + 1)) 159 7) + 1)))))))))))))) ∧ (x4 = 0 → q_Call G d 0 0 X_M_wrong [.ref 159, .int 1] σ2 (q_rv (fun σ37 => ((¬ (q_I σ37 159 8) = 0 → Q none σ37) ∧ ((q_I σ37 159 8) = 0 → (∃ k43, (q_I σ37 159 7) = nI k43 ∧ k43 < 1002 ∧ (∃ k45, (q_I σ37 159 19) = nI k45 ∧ k45 < 12 ∧ (∃ k47, (q_I (q_setL σ37 169 k45 (q_L σ37 163 k43)) 159 19) = nI k47 ∧ k47 < 12 ∧ Q none (q_setI (q_setI (q_setI (q_setL σ37 169 k45 (q_L σ37 163 k43)) 171 k47 p0) 159 19 ((q_I (q_setI (q_setL σ37 169 k45 (q_L σ37 163 k43)) 171 k47 p0) 159 19) + 1)) 159 7 ((q_I (q_setI (q_setI (q_setL σ37 169 k45 (q_L σ37 163 k43)) 171 k47 p0) 159 19 ((q_I (q_setI (q_setL σ37 169 k45 (q_L σ37 163 k43)) 171 k47 p0) 159 19) + 1)) 159 7) + 1)))))))))))))) : q_At G X_M_readName (d + 1) 0 0 0 [some (.ref 159), some (.int p0)] [] σ Q := by
  refine q_aload_n o_M_readName_0 rfl ?_
  refine q_dup o_M_readName_1 rfl ?_
  refine q2_getI hs o_M_readName_2 f_M_185 rfl ?_
  refine q_iconst (v := 1) o_M_readName_5 (by decide) ?_
  refine q_iadd o_M_readName_6 ?_
  refine q2_putI hs o_M_readName_7 fp_M_185 rfl rfl rfl ?_
  refine q_aload_n o_M_readName_10 rfl ?_
  refine q2_callVi _ (a := 159) (As := []) (st := []) hs o_M_readName_11 k_M_219 rfl rfl (Nat.le_of_ble_eq_true rfl) h (fun x4 σ2 hs3 h1 => ?_)
  refine q_if_ne o_M_readName_14 (fun c5 => ?_) (fun c5 => ?_)
  · have h6 := h1.1 c5
    refine q_aload_n o_M_readName_25 rfl ?_
    refine q_iconst (v := 1) o_M_readName_26 (by decide) ?_
    refine q2_callVi _ (a := 159) (As := [.int 1]) (st := []) hs3 o_M_readName_27 k_M_223 rfl rfl (Nat.le_of_ble_eq_true rfl) h6 (fun x10 σ8 hs9 h7 => ?_)
    refine q_if_lt o_M_readName_30 (fun c11 => ?_) (fun c11 => ?_)
    · have h12 := h7.1 c11
      refine q_aload_n o_M_readName_38 rfl ?_
      refine q2_getI hs9 o_M_readName_39 f_M_188 rfl ?_
      refine q_if_ne o_M_readName_42 (fun c13 => ?_) (fun c13 => ?_)
      · have h14 := h12.1 c13
        exact q_vre o_M_readName_93 rfl h14
      · have h15 := h12.2 c13
        refine q_aload_n o_M_readName_45 rfl ?_
        refine q2_getR hs9 o_M_readName_46 f_M_115 rfl (fz_159_15 hs9) ?_
        refine q_aload_n o_M_readName_49 rfl ?_
        refine q2_getI hs9 o_M_readName_50 f_M_213 rfl ?_
        refine q_aload_n o_M_readName_53 rfl ?_
        refine q2_getR hs9 o_M_readName_54 f_M_30 rfl (fz_159_6 hs9) ?_
        refine q_aload_n o_M_readName_57 rfl ?_
        refine q2_getI hs9 o_M_readName_58 f_M_185 rfl ?_
        obtain ⟨k17, eh16, bh16, h16⟩ := h15
        refine q2_lald hs9 o_M_readName_61 rfl eh16 bh16 (by decide) ?_
        obtain ⟨k19, eh18, bh18, h18⟩ := h16
        refine q2_last hs9 o_M_readName_62 rfl eh18 bh18 (by decide) ?_
        refine q_aload_n o_M_readName_63 rfl ?_
        refine q2_getR hs9 o_M_readName_64 f_M_121 rfl (fz_159_17 hs9) ?_
        refine q_aload_n o_M_readName_67 rfl ?_
        refine q2_getI hs9 o_M_readName_68 f_M_213 rfl ?_
        refine q_iload_n o_M_readName_71 rfl ?_
        obtain ⟨k21, eh20, bh20, h20⟩ := h18
        refine q2_iast hs9 o_M_readName_72 rfl eh20 bh20 (by decide) ?_
        refine q_aload_n o_M_readName_73 rfl ?_
        refine q_dup o_M_readName_74 rfl ?_
        refine q2_getI hs9 o_M_readName_75 f_M_213 rfl ?_
        refine q_iconst (v := 1) o_M_readName_78 (by decide) ?_
        refine q_iadd o_M_readName_79 ?_
        refine q2_putI hs9 o_M_readName_80 fp_M_213 rfl rfl rfl ?_
        refine q_aload_n o_M_readName_83 rfl ?_
        refine q_dup o_M_readName_84 rfl ?_
        refine q2_getI hs9 o_M_readName_85 f_M_185 rfl ?_
        refine q_iconst (v := 1) o_M_readName_88 (by decide) ?_
        refine q_iadd o_M_readName_89 ?_
        refine q2_putI hs9 o_M_readName_90 fp_M_185 rfl rfl rfl ?_
        exact q_vre o_M_readName_93 rfl h20
    · have h22 := h7.2 c11
      refine q_aload_n o_M_readName_33 rfl ?_
      refine q_iconst (v := 3) o_M_readName_34 (by decide) ?_
      refine q2_callVv _ (a := 159) (As := [.int 3]) (st := []) hs9 o_M_readName_35 k_M_194 rfl rfl (Nat.le_of_ble_eq_true rfl) h22 (fun σ24 hs25 h23 => ?_)
      refine q_aload_n o_M_readName_38 rfl ?_
      refine q2_getI hs25 o_M_readName_39 f_M_188 rfl ?_
      refine q_if_ne o_M_readName_42 (fun c26 => ?_) (fun c26 => ?_)
      · have h27 := h23.1 c26
        exact q_vre o_M_readName_93 rfl h27
      · have h28 := h23.2 c26
        refine q_aload_n o_M_readName_45 rfl ?_
        refine q2_getR hs25 o_M_readName_46 f_M_115 rfl (fz_159_15 hs25) ?_
        refine q_aload_n o_M_readName_49 rfl ?_
        refine q2_getI hs25 o_M_readName_50 f_M_213 rfl ?_
        refine q_aload_n o_M_readName_53 rfl ?_
        refine q2_getR hs25 o_M_readName_54 f_M_30 rfl (fz_159_6 hs25) ?_
        refine q_aload_n o_M_readName_57 rfl ?_
        refine q2_getI hs25 o_M_readName_58 f_M_185 rfl ?_
        obtain ⟨k30, eh29, bh29, h29⟩ := h28
        refine q2_lald hs25 o_M_readName_61 rfl eh29 bh29 (by decide) ?_
        obtain ⟨k32, eh31, bh31, h31⟩ := h29
        refine q2_last hs25 o_M_readName_62 rfl eh31 bh31 (by decide) ?_
        refine q_aload_n o_M_readName_63 rfl ?_
        refine q2_getR hs25 o_M_readName_64 f_M_121 rfl (fz_159_17 hs25) ?_
        refine q_aload_n o_M_readName_67 rfl ?_
        refine q2_getI hs25 o_M_readName_68 f_M_213 rfl ?_
        refine q_iload_n o_M_readName_71 rfl ?_
        obtain ⟨k34, eh33, bh33, h33⟩ := h31
        refine q2_iast hs25 o_M_readName_72 rfl eh33 bh33 (by decide) ?_
        refine q_aload_n o_M_readName_73 rfl ?_
        refine q_dup o_M_readName_74 rfl ?_
        refine q2_getI hs25 o_M_readName_75 f_M_213 rfl ?_
        refine q_iconst (v := 1) o_M_readName_78 (by decide) ?_
        refine q_iadd o_M_readName_79 ?_
        refine q2_putI hs25 o_M_readName_80 fp_M_213 rfl rfl rfl ?_
        refine q_aload_n o_M_readName_83 rfl ?_
        refine q_dup o_M_readName_84 rfl ?_
        refine q2_getI hs25 o_M_readName_85 f_M_185 rfl ?_
        refine q_iconst (v := 1) o_M_readName_88 (by decide) ?_
        refine q_iadd o_M_readName_89 ?_
        refine q2_putI hs25 o_M_readName_90 fp_M_185 rfl rfl rfl ?_
        exact q_vre o_M_readName_93 rfl h33
  · have h35 := h1.2 c5
    refine q_aload_n o_M_readName_17 rfl ?_
    refine q_iconst (v := 1) o_M_readName_18 (by decide) ?_
    refine q2_callVv _ (a := 159) (As := [.int 1]) (st := []) hs3 o_M_readName_19 k_M_194 rfl rfl (Nat.le_of_ble_eq_true rfl) h35 (fun σ37 hs38 h36 => ?_)
    refine q_goto o_M_readName_22 ?_
    refine q_aload_n o_M_readName_38 rfl ?_
    refine q2_getI hs38 o_M_readName_39 f_M_188 rfl ?_
    refine q_if_ne o_M_readName_42 (fun c39 => ?_) (fun c39 => ?_)
    · have h40 := h36.1 c39
      exact q_vre o_M_readName_93 rfl h40
    · have h41 := h36.2 c39
      refine q_aload_n o_M_readName_45 rfl ?_
      refine q2_getR hs38 o_M_readName_46 f_M_115 rfl (fz_159_15 hs38) ?_
      refine q_aload_n o_M_readName_49 rfl ?_
      refine q2_getI hs38 o_M_readName_50 f_M_213 rfl ?_
      refine q_aload_n o_M_readName_53 rfl ?_
      refine q2_getR hs38 o_M_readName_54 f_M_30 rfl (fz_159_6 hs38) ?_
      refine q_aload_n o_M_readName_57 rfl ?_
      refine q2_getI hs38 o_M_readName_58 f_M_185 rfl ?_
      obtain ⟨k43, eh42, bh42, h42⟩ := h41
      refine q2_lald hs38 o_M_readName_61 rfl eh42 bh42 (by decide) ?_
      obtain ⟨k45, eh44, bh44, h44⟩ := h42
      refine q2_last hs38 o_M_readName_62 rfl eh44 bh44 (by decide) ?_
      refine q_aload_n o_M_readName_63 rfl ?_
      refine q2_getR hs38 o_M_readName_64 f_M_121 rfl (fz_159_17 hs38) ?_
      refine q_aload_n o_M_readName_67 rfl ?_
      refine q2_getI hs38 o_M_readName_68 f_M_213 rfl ?_
      refine q_iload_n o_M_readName_71 rfl ?_
      obtain ⟨k47, eh46, bh46, h46⟩ := h44
      refine q2_iast hs38 o_M_readName_72 rfl eh46 bh46 (by decide) ?_
      refine q_aload_n o_M_readName_73 rfl ?_
      refine q_dup o_M_readName_74 rfl ?_
      refine q2_getI hs38 o_M_readName_75 f_M_213 rfl ?_
      refine q_iconst (v := 1) o_M_readName_78 (by decide) ?_
      refine q_iadd o_M_readName_79 ?_
      refine q2_putI hs38 o_M_readName_80 fp_M_213 rfl rfl rfl ?_
      refine q_aload_n o_M_readName_83 rfl ?_
      refine q_dup o_M_readName_84 rfl ?_
      refine q2_getI hs38 o_M_readName_85 f_M_185 rfl ?_
      refine q_iconst (v := 1) o_M_readName_88 (by decide) ?_
      refine q_iadd o_M_readName_89 ?_
      refine q2_putI hs38 o_M_readName_90 fp_M_185 rfl rfl rfl ?_
      exact q_vre o_M_readName_93 rfl h46

set_option maxRecDepth 20000 in
theorem v_M_readHouse_0 {G : q_G} {d : Nat} {σ : q_S} {Q : Option Value → q_S → Prop}   (hs : q_Sh σ) (h : ((¬ (q_I σ 165 200) = 6 → q_Call G d 0 0 X_M_readName [.ref 159, .int (q_I σ 165 200)] σ (q_rv (fun σ6 => Q none (q_setI σ6 165 200 ((q_I σ6 165 200) + 1))))) ∧ ((q_I σ 165 200) = 6 → q_Call G d 0 0 X_M_wrong [.ref 159, .int 5] σ (q_rv (fun σ14 => Q none σ14))))) : q_At G X_M_readHouse (d + 1) 0 0 0 [some (.ref 159), none] [] σ Q := by
  refine q_aload_n o_M_readHouse_0 rfl ?_
  refine q2_getR hs o_M_readHouse_1 f_M_103 rfl (fz_159_10 hs) ?_
  refine q_sipush (v := 200) o_M_readHouse_4 (by decide) ?_
  refine q2_iald (i := 200) hs o_M_readHouse_7 rfl rfl (by decide) (by decide) ?_
  refine q2_istn (ls' := [some (.ref 159), some (.int (q_I σ 165 200))]) o_M_readHouse_8 (Nat.le_of_ble_eq_true rfl) rfl ?_
  refine q_iload_n o_M_readHouse_9 rfl ?_
  refine q_bipush (v := 6) o_M_readHouse_10 (by decide) ?_
  refine q_icmp_ne o_M_readHouse_12 (fun c3 => ?_) (fun c3 => ?_)
  · have h4 := h.1 c3
    refine q_aload_n o_M_readHouse_21 rfl ?_
    refine q_iload_n o_M_readHouse_22 rfl ?_
    refine q2_callVv _ (a := 159) (As := [.int (q_I σ 165 200)]) (st := []) hs o_M_readHouse_23 k_M_265 rfl rfl (Nat.le_of_ble_eq_true rfl) h4 (fun σ6 hs7 h5 => ?_)
    refine q_aload_n o_M_readHouse_26 rfl ?_
    refine q2_getR hs7 o_M_readHouse_27 f_M_103 rfl (fz_159_10 hs7) ?_
    refine q_sipush (v := 200) o_M_readHouse_30 (by decide) ?_
    refine q_dup2 o_M_readHouse_33 rfl rfl ?_
    refine q2_iald (i := 200) hs7 o_M_readHouse_34 rfl rfl (by decide) (by decide) ?_
    refine q_iconst (v := 1) o_M_readHouse_35 (by decide) ?_
    refine q_iadd o_M_readHouse_36 ?_
    refine q2_iast (i := 200) hs7 o_M_readHouse_37 rfl rfl (by decide) (by decide) ?_
    exact q_vre o_M_readHouse_38 rfl h5
  · have h12 := h.2 c3
    refine q_aload_n o_M_readHouse_15 rfl ?_
    refine q_iconst (v := 5) o_M_readHouse_16 (by decide) ?_
    refine q2_callVv _ (a := 159) (As := [.int 5]) (st := []) hs o_M_readHouse_17 k_M_194 rfl rfl (Nat.le_of_ble_eq_true rfl) h12 (fun σ14 hs15 h13 => ?_)
    exact q_vre o_M_readHouse_20 rfl h13

set_option maxRecDepth 20000 in
theorem v_M_readWall_0 {G : q_G} {d : Nat} {σ : q_S} {Q : Option Value → q_S → Prop}   (hs : q_Sh σ) (h : q_Call G d 0 0 X_M_takeTold [.ref 159, .int 1, .int 0] (q_setI σ 159 7 ((q_I σ 159 7) + 1)) (q_ri (fun x4 σ2 => q_Call G d 0 0 X_M_toldHere [.ref 159, .int 1, .int 0] σ2 (q_ri (fun x8 σ6 => ((¬ (q_I σ6 159 8) = 0 → (((q_I σ6 159 8) ≤ 0 → q_Call G d 0 0 X_M_takeNumber [.ref 159, .int 1, .int 9] (q_setI σ6 159 7 ((q_I σ6 159 7) + 1)) (q_ri (fun x16 σ14 => (∃ k18, ((208 + (6 * x4)) + x8) = nI k18 ∧ k18 < 400 ∧ (∃ k20, ((208 + (6 * x8)) + x4) = nI k20 ∧ k20 < 400 ∧ Q none (q_setI (q_setI (q_setI σ14 165 k18 x16) 165 k20 x16) 165 202 ((q_I (q_setI (q_setI σ14 165 k18 x16) 165 k20 x16) 165 202) + 1))))))) ∧ (¬ (q_I σ6 159 8) ≤ 0 → Q none σ6))) ∧ ((q_I σ6 159 8) = 0 → ((x4 = x8 → q_Call G d 0 0 X_M_wrong [.ref 159, .int 3] σ6 (q_rv (fun σ30 => (((q_I σ30 159 8) ≤ 0 → q_Call G d 0 0 X_M_takeNumber [.ref 159, .int 1, .int 9] (q_setI σ30 159 7 ((q_I σ30 159 7) + 1)) (q_ri (fun x37 σ35 => (∃ k39, ((208 + (6 * x4)) + x8) = nI k39 ∧ k39 < 400 ∧ (∃ k41, ((208 + (6 * x8)) + x4) = nI k41 ∧ k41 < 400 ∧ Q none (q_setI (q_setI (q_setI σ35 165 k39 x37) 165 k41 x37) 165 202 ((q_I (q_setI (q_setI σ35 165 k39 x37) 165 k41 x37) 165 202) + 1))))))) ∧ (¬ (q_I σ30 159 8) ≤ 0 → Q none σ30))))) ∧ (¬ x4 = x8 → (∃ k49, ((208 + (6 * x4)) + x8) = nI k49 ∧ k49 < 400 ∧ (((q_I σ6 165 k49) ≤ 0 → (((q_I σ6 159 8) ≤ 0 → q_Call G d 0 0 X_M_takeNumber [.ref 159, .int 1, .int 9] (q_setI σ6 159 7 ((q_I σ6 159 7) + 1)) (q_ri (fun x57 σ55 => (∃ k59, ((208 + (6 * x4)) + x8) = nI k59 ∧ k59 < 400 ∧ (∃ k61, ((208 + (6 * x8)) + x4) = nI k61 ∧ k61 < 400 ∧ Q none (q_setI (q_setI (q_setI σ55 165 k59 x57) 165 k61 x57) 165 202 ((q_I (q_setI (q_setI σ55 165 k59 x57) 165 k61 x57) 165 202) + 1))))))) ∧ (¬ (q_I σ6 159 8) ≤ 0 → Q none σ6))) ∧ (¬ (q_I σ6 165 k49) ≤ 0 → q_Call G d 0 0 X_M_wrong [.ref 159, .int 3] σ6 (q_rv (fun σ69 => (((q_I σ69 159 8) ≤ 0 → q_Call G d 0 0 X_M_takeNumber [.ref 159, .int 1, .int 9] (q_setI σ69 159 7 ((q_I σ69 159 7) + 1)) (q_ri (fun x76 σ74 => (∃ k78, ((208 + (6 * x4)) + x8) = nI k78 ∧ k78 < 400 ∧ (∃ k80, ((208 + (6 * x8)) + x4) = nI k80 ∧ k80 < 400 ∧ Q none (q_setI (q_setI (q_setI σ74 165 k78 x76) 165 k80 x76) 165 202 ((q_I (q_setI (q_setI σ74 165 k78 x76) 165 k80 x76) 165 202) + 1))))))) ∧ (¬ (q_I σ69 159 8) ≤ 0 → Q none σ69)))))))))))))))) : q_At G X_M_readWall (d + 1) 0 0 0 [some (.ref 159), none, none, none] [] σ Q := by
  refine q_aload_n o_M_readWall_0 rfl ?_
  refine q_dup o_M_readWall_1 rfl ?_
  refine q2_getI hs o_M_readWall_2 f_M_185 rfl ?_
  refine q_iconst (v := 1) o_M_readWall_5 (by decide) ?_
  refine q_iadd o_M_readWall_6 ?_
  refine q2_putI hs o_M_readWall_7 fp_M_185 rfl rfl rfl ?_
  refine q_aload_n o_M_readWall_10 rfl ?_
  refine q_iconst (v := 1) o_M_readWall_11 (by decide) ?_
  refine q_iconst (v := 0) o_M_readWall_12 (by decide) ?_
  refine q2_callVi _ (a := 159) (As := [.int 1, .int 0]) (st := []) hs o_M_readWall_13 k_M_268 rfl rfl (Nat.le_of_ble_eq_true rfl) h (fun x4 σ2 hs3 h1 => ?_)
  refine q2_istn (ls' := [some (.ref 159), some (.int x4), none, none]) o_M_readWall_16 (Nat.le_of_ble_eq_true rfl) rfl ?_
  refine q_aload_n o_M_readWall_17 rfl ?_
  refine q_iconst (v := 1) o_M_readWall_18 (by decide) ?_
  refine q_iconst (v := 0) o_M_readWall_19 (by decide) ?_
  refine q2_callVi _ (a := 159) (As := [.int 1, .int 0]) (st := []) hs3 o_M_readWall_20 k_M_231 rfl rfl (Nat.le_of_ble_eq_true rfl) h1 (fun x8 σ6 hs7 h5 => ?_)
  refine q2_istn (ls' := [some (.ref 159), some (.int x4), some (.int x8), none]) o_M_readWall_23 (Nat.le_of_ble_eq_true rfl) rfl ?_
  refine q_aload_n o_M_readWall_24 rfl ?_
  refine q2_getI hs7 o_M_readWall_25 f_M_188 rfl ?_
  refine q_if_ne o_M_readWall_28 (fun c9 => ?_) (fun c9 => ?_)
  · have h10 := h5.1 c9
    refine q_aload_n o_M_readWall_59 rfl ?_
    refine q2_getI hs7 o_M_readWall_60 f_M_188 rfl ?_
    refine q_if_le o_M_readWall_63 (fun c11 => ?_) (fun c11 => ?_)
    · have h12 := h10.1 c11
      refine q_aload_n o_M_readWall_67 rfl ?_
      refine q_dup o_M_readWall_68 rfl ?_
      refine q2_getI hs7 o_M_readWall_69 f_M_185 rfl ?_
      refine q_iconst (v := 1) o_M_readWall_72 (by decide) ?_
      refine q_iadd o_M_readWall_73 ?_
      refine q2_putI hs7 o_M_readWall_74 fp_M_185 rfl rfl rfl ?_
      refine q_aload_n o_M_readWall_77 rfl ?_
      refine q_iconst (v := 1) o_M_readWall_78 (by decide) ?_
      refine q_bipush (v := 9) o_M_readWall_79 (by decide) ?_
      refine q2_callVi _ (a := 159) (As := [.int 1, .int 9]) (st := []) hs7 o_M_readWall_81 k_M_206 rfl rfl (Nat.le_of_ble_eq_true rfl) h12 (fun x16 σ14 hs15 h13 => ?_)
      refine q2_istn (ls' := [some (.ref 159), some (.int x4), some (.int x8), some (.int x16)]) o_M_readWall_84 (Nat.le_of_ble_eq_true rfl) rfl ?_
      refine q_aload_n o_M_readWall_85 rfl ?_
      refine q2_getR hs15 o_M_readWall_86 f_M_103 rfl (fz_159_10 hs15) ?_
      refine q_sipush (v := 208) o_M_readWall_89 (by decide) ?_
      refine q_bipush (v := 6) o_M_readWall_92 (by decide) ?_
      refine q_iload_n o_M_readWall_94 rfl ?_
      refine q_imul o_M_readWall_95 ?_
      refine q_iadd o_M_readWall_96 ?_
      refine q_iload_n o_M_readWall_97 rfl ?_
      refine q_iadd o_M_readWall_98 ?_
      refine q_iload_n o_M_readWall_99 rfl ?_
      obtain ⟨k18, eh17, bh17, h17⟩ := h13
      refine q2_iast hs15 o_M_readWall_100 rfl eh17 bh17 (by decide) ?_
      refine q_aload_n o_M_readWall_101 rfl ?_
      refine q2_getR hs15 o_M_readWall_102 f_M_103 rfl (fz_159_10 hs15) ?_
      refine q_sipush (v := 208) o_M_readWall_105 (by decide) ?_
      refine q_bipush (v := 6) o_M_readWall_108 (by decide) ?_
      refine q_iload_n o_M_readWall_110 rfl ?_
      refine q_imul o_M_readWall_111 ?_
      refine q_iadd o_M_readWall_112 ?_
      refine q_iload_n o_M_readWall_113 rfl ?_
      refine q_iadd o_M_readWall_114 ?_
      refine q_iload_n o_M_readWall_115 rfl ?_
      obtain ⟨k20, eh19, bh19, h19⟩ := h17
      refine q2_iast hs15 o_M_readWall_116 rfl eh19 bh19 (by decide) ?_
      refine q_aload_n o_M_readWall_117 rfl ?_
      refine q2_getR hs15 o_M_readWall_118 f_M_103 rfl (fz_159_10 hs15) ?_
      refine q_sipush (v := 202) o_M_readWall_121 (by decide) ?_
      refine q_dup2 o_M_readWall_124 rfl rfl ?_
      refine q2_iald (i := 202) hs15 o_M_readWall_125 rfl rfl (by decide) (by decide) ?_
      refine q_iconst (v := 1) o_M_readWall_126 (by decide) ?_
      refine q_iadd o_M_readWall_127 ?_
      refine q2_iast (i := 202) hs15 o_M_readWall_128 rfl rfl (by decide) (by decide) ?_
      exact q_vre o_M_readWall_129 rfl h19
    · have h25 := h10.2 c11
      exact q_vre o_M_readWall_66 rfl h25
  · have h26 := h5.2 c9
    refine q_iload_n o_M_readWall_31 rfl ?_
    refine q_iload_n o_M_readWall_32 rfl ?_
    refine q_icmp_eq o_M_readWall_33 (fun c27 => ?_) (fun c27 => ?_)
    · have h28 := h26.1 c27
      refine q_aload_n o_M_readWall_54 rfl ?_
      refine q_iconst (v := 3) o_M_readWall_55 (by decide) ?_
      refine q2_callVv _ (a := 159) (As := [.int 3]) (st := []) hs7 o_M_readWall_56 k_M_194 rfl rfl (Nat.le_of_ble_eq_true rfl) h28 (fun σ30 hs31 h29 => ?_)
      refine q_aload_n o_M_readWall_59 rfl ?_
      refine q2_getI hs31 o_M_readWall_60 f_M_188 rfl ?_
      refine q_if_le o_M_readWall_63 (fun c32 => ?_) (fun c32 => ?_)
      · have h33 := h29.1 c32
        refine q_aload_n o_M_readWall_67 rfl ?_
        refine q_dup o_M_readWall_68 rfl ?_
        refine q2_getI hs31 o_M_readWall_69 f_M_185 rfl ?_
        refine q_iconst (v := 1) o_M_readWall_72 (by decide) ?_
        refine q_iadd o_M_readWall_73 ?_
        refine q2_putI hs31 o_M_readWall_74 fp_M_185 rfl rfl rfl ?_
        refine q_aload_n o_M_readWall_77 rfl ?_
        refine q_iconst (v := 1) o_M_readWall_78 (by decide) ?_
        refine q_bipush (v := 9) o_M_readWall_79 (by decide) ?_
        refine q2_callVi _ (a := 159) (As := [.int 1, .int 9]) (st := []) hs31 o_M_readWall_81 k_M_206 rfl rfl (Nat.le_of_ble_eq_true rfl) h33 (fun x37 σ35 hs36 h34 => ?_)
        refine q2_istn (ls' := [some (.ref 159), some (.int x4), some (.int x8), some (.int x37)]) o_M_readWall_84 (Nat.le_of_ble_eq_true rfl) rfl ?_
        refine q_aload_n o_M_readWall_85 rfl ?_
        refine q2_getR hs36 o_M_readWall_86 f_M_103 rfl (fz_159_10 hs36) ?_
        refine q_sipush (v := 208) o_M_readWall_89 (by decide) ?_
        refine q_bipush (v := 6) o_M_readWall_92 (by decide) ?_
        refine q_iload_n o_M_readWall_94 rfl ?_
        refine q_imul o_M_readWall_95 ?_
        refine q_iadd o_M_readWall_96 ?_
        refine q_iload_n o_M_readWall_97 rfl ?_
        refine q_iadd o_M_readWall_98 ?_
        refine q_iload_n o_M_readWall_99 rfl ?_
        obtain ⟨k39, eh38, bh38, h38⟩ := h34
        refine q2_iast hs36 o_M_readWall_100 rfl eh38 bh38 (by decide) ?_
        refine q_aload_n o_M_readWall_101 rfl ?_
        refine q2_getR hs36 o_M_readWall_102 f_M_103 rfl (fz_159_10 hs36) ?_
        refine q_sipush (v := 208) o_M_readWall_105 (by decide) ?_
        refine q_bipush (v := 6) o_M_readWall_108 (by decide) ?_
        refine q_iload_n o_M_readWall_110 rfl ?_
        refine q_imul o_M_readWall_111 ?_
        refine q_iadd o_M_readWall_112 ?_
        refine q_iload_n o_M_readWall_113 rfl ?_
        refine q_iadd o_M_readWall_114 ?_
        refine q_iload_n o_M_readWall_115 rfl ?_
        obtain ⟨k41, eh40, bh40, h40⟩ := h38
        refine q2_iast hs36 o_M_readWall_116 rfl eh40 bh40 (by decide) ?_
        refine q_aload_n o_M_readWall_117 rfl ?_
        refine q2_getR hs36 o_M_readWall_118 f_M_103 rfl (fz_159_10 hs36) ?_
        refine q_sipush (v := 202) o_M_readWall_121 (by decide) ?_
        refine q_dup2 o_M_readWall_124 rfl rfl ?_
        refine q2_iald (i := 202) hs36 o_M_readWall_125 rfl rfl (by decide) (by decide) ?_
        refine q_iconst (v := 1) o_M_readWall_126 (by decide) ?_
        refine q_iadd o_M_readWall_127 ?_
        refine q2_iast (i := 202) hs36 o_M_readWall_128 rfl rfl (by decide) (by decide) ?_
        exact q_vre o_M_readWall_129 rfl h40
      · have h46 := h29.2 c32
        exact q_vre o_M_readWall_66 rfl h46
    · have h47 := h26.2 c27
      refine q_aload_n o_M_readWall_36 rfl ?_
      refine q2_getR hs7 o_M_readWall_37 f_M_103 rfl (fz_159_10 hs7) ?_
      refine q_sipush (v := 208) o_M_readWall_40 (by decide) ?_
      refine q_bipush (v := 6) o_M_readWall_43 (by decide) ?_
      refine q_iload_n o_M_readWall_45 rfl ?_
      refine q_imul o_M_readWall_46 ?_
      refine q_iadd o_M_readWall_47 ?_
      refine q_iload_n o_M_readWall_48 rfl ?_
      refine q_iadd o_M_readWall_49 ?_
      obtain ⟨k49, eh48, bh48, h48⟩ := h47
      refine q2_iald hs7 o_M_readWall_50 rfl eh48 bh48 (by decide) ?_
      refine q_if_le o_M_readWall_51 (fun c50 => ?_) (fun c50 => ?_)
      · have h51 := h48.1 c50
        refine q_aload_n o_M_readWall_59 rfl ?_
        refine q2_getI hs7 o_M_readWall_60 f_M_188 rfl ?_
        refine q_if_le o_M_readWall_63 (fun c52 => ?_) (fun c52 => ?_)
        · have h53 := h51.1 c52
          refine q_aload_n o_M_readWall_67 rfl ?_
          refine q_dup o_M_readWall_68 rfl ?_
          refine q2_getI hs7 o_M_readWall_69 f_M_185 rfl ?_
          refine q_iconst (v := 1) o_M_readWall_72 (by decide) ?_
          refine q_iadd o_M_readWall_73 ?_
          refine q2_putI hs7 o_M_readWall_74 fp_M_185 rfl rfl rfl ?_
          refine q_aload_n o_M_readWall_77 rfl ?_
          refine q_iconst (v := 1) o_M_readWall_78 (by decide) ?_
          refine q_bipush (v := 9) o_M_readWall_79 (by decide) ?_
          refine q2_callVi _ (a := 159) (As := [.int 1, .int 9]) (st := []) hs7 o_M_readWall_81 k_M_206 rfl rfl (Nat.le_of_ble_eq_true rfl) h53 (fun x57 σ55 hs56 h54 => ?_)
          refine q2_istn (ls' := [some (.ref 159), some (.int x4), some (.int x8), some (.int x57)]) o_M_readWall_84 (Nat.le_of_ble_eq_true rfl) rfl ?_
          refine q_aload_n o_M_readWall_85 rfl ?_
          refine q2_getR hs56 o_M_readWall_86 f_M_103 rfl (fz_159_10 hs56) ?_
          refine q_sipush (v := 208) o_M_readWall_89 (by decide) ?_
          refine q_bipush (v := 6) o_M_readWall_92 (by decide) ?_
          refine q_iload_n o_M_readWall_94 rfl ?_
          refine q_imul o_M_readWall_95 ?_
          refine q_iadd o_M_readWall_96 ?_
          refine q_iload_n o_M_readWall_97 rfl ?_
          refine q_iadd o_M_readWall_98 ?_
          refine q_iload_n o_M_readWall_99 rfl ?_
          obtain ⟨k59, eh58, bh58, h58⟩ := h54
          refine q2_iast hs56 o_M_readWall_100 rfl eh58 bh58 (by decide) ?_
          refine q_aload_n o_M_readWall_101 rfl ?_
          refine q2_getR hs56 o_M_readWall_102 f_M_103 rfl (fz_159_10 hs56) ?_
          refine q_sipush (v := 208) o_M_readWall_105 (by decide) ?_
          refine q_bipush (v := 6) o_M_readWall_108 (by decide) ?_
          refine q_iload_n o_M_readWall_110 rfl ?_
          refine q_imul o_M_readWall_111 ?_
          refine q_iadd o_M_readWall_112 ?_
          refine q_iload_n o_M_readWall_113 rfl ?_
          refine q_iadd o_M_readWall_114 ?_
          refine q_iload_n o_M_readWall_115 rfl ?_
          obtain ⟨k61, eh60, bh60, h60⟩ := h58
          refine q2_iast hs56 o_M_readWall_116 rfl eh60 bh60 (by decide) ?_
          refine q_aload_n o_M_readWall_117 rfl ?_
          refine q2_getR hs56 o_M_readWall_118 f_M_103 rfl (fz_159_10 hs56) ?_
          refine q_sipush (v := 202) o_M_readWall_121 (by decide) ?_
          refine q_dup2 o_M_readWall_124 rfl rfl ?_
          refine q2_iald (i := 202) hs56 o_M_readWall_125 rfl rfl (by decide) (by decide) ?_
          refine q_iconst (v := 1) o_M_readWall_126 (by decide) ?_
          refine q_iadd o_M_readWall_127 ?_
          refine q2_iast (i := 202) hs56 o_M_readWall_128 rfl rfl (by decide) (by decide) ?_
          exact q_vre o_M_readWall_129 rfl h60
        · have h66 := h51.2 c52
          exact q_vre o_M_readWall_66 rfl h66
      · have h67 := h48.2 c50
        refine q_aload_n o_M_readWall_54 rfl ?_
        refine q_iconst (v := 3) o_M_readWall_55 (by decide) ?_
        refine q2_callVv _ (a := 159) (As := [.int 3]) (st := []) hs7 o_M_readWall_56 k_M_194 rfl rfl (Nat.le_of_ble_eq_true rfl) h67 (fun σ69 hs70 h68 => ?_)
        refine q_aload_n o_M_readWall_59 rfl ?_
        refine q2_getI hs70 o_M_readWall_60 f_M_188 rfl ?_
        refine q_if_le o_M_readWall_63 (fun c71 => ?_) (fun c71 => ?_)
        · have h72 := h68.1 c71
          refine q_aload_n o_M_readWall_67 rfl ?_
          refine q_dup o_M_readWall_68 rfl ?_
          refine q2_getI hs70 o_M_readWall_69 f_M_185 rfl ?_
          refine q_iconst (v := 1) o_M_readWall_72 (by decide) ?_
          refine q_iadd o_M_readWall_73 ?_
          refine q2_putI hs70 o_M_readWall_74 fp_M_185 rfl rfl rfl ?_
          refine q_aload_n o_M_readWall_77 rfl ?_
          refine q_iconst (v := 1) o_M_readWall_78 (by decide) ?_
          refine q_bipush (v := 9) o_M_readWall_79 (by decide) ?_
          refine q2_callVi _ (a := 159) (As := [.int 1, .int 9]) (st := []) hs70 o_M_readWall_81 k_M_206 rfl rfl (Nat.le_of_ble_eq_true rfl) h72 (fun x76 σ74 hs75 h73 => ?_)
          refine q2_istn (ls' := [some (.ref 159), some (.int x4), some (.int x8), some (.int x76)]) o_M_readWall_84 (Nat.le_of_ble_eq_true rfl) rfl ?_
          refine q_aload_n o_M_readWall_85 rfl ?_
          refine q2_getR hs75 o_M_readWall_86 f_M_103 rfl (fz_159_10 hs75) ?_
          refine q_sipush (v := 208) o_M_readWall_89 (by decide) ?_
          refine q_bipush (v := 6) o_M_readWall_92 (by decide) ?_
          refine q_iload_n o_M_readWall_94 rfl ?_
          refine q_imul o_M_readWall_95 ?_
          refine q_iadd o_M_readWall_96 ?_
          refine q_iload_n o_M_readWall_97 rfl ?_
          refine q_iadd o_M_readWall_98 ?_
          refine q_iload_n o_M_readWall_99 rfl ?_
          obtain ⟨k78, eh77, bh77, h77⟩ := h73
          refine q2_iast hs75 o_M_readWall_100 rfl eh77 bh77 (by decide) ?_
          refine q_aload_n o_M_readWall_101 rfl ?_
          refine q2_getR hs75 o_M_readWall_102 f_M_103 rfl (fz_159_10 hs75) ?_
          refine q_sipush (v := 208) o_M_readWall_105 (by decide) ?_
          refine q_bipush (v := 6) o_M_readWall_108 (by decide) ?_
          refine q_iload_n o_M_readWall_110 rfl ?_
          refine q_imul o_M_readWall_111 ?_
          refine q_iadd o_M_readWall_112 ?_
          refine q_iload_n o_M_readWall_113 rfl ?_
          refine q_iadd o_M_readWall_114 ?_
          refine q_iload_n o_M_readWall_115 rfl ?_
          obtain ⟨k80, eh79, bh79, h79⟩ := h77
          refine q2_iast hs75 o_M_readWall_116 rfl eh79 bh79 (by decide) ?_
          refine q_aload_n o_M_readWall_117 rfl ?_
          refine q2_getR hs75 o_M_readWall_118 f_M_103 rfl (fz_159_10 hs75) ?_
          refine q_sipush (v := 202) o_M_readWall_121 (by decide) ?_
          refine q_dup2 o_M_readWall_124 rfl rfl ?_
          refine q2_iald (i := 202) hs75 o_M_readWall_125 rfl rfl (by decide) (by decide) ?_
          refine q_iconst (v := 1) o_M_readWall_126 (by decide) ?_
          refine q_iadd o_M_readWall_127 ?_
          refine q2_iast (i := 202) hs75 o_M_readWall_128 rfl rfl (by decide) (by decide) ?_
          exact q_vre o_M_readWall_129 rfl h79
        · have h85 := h68.2 c71
          exact q_vre o_M_readWall_66 rfl h85

set_option maxRecDepth 20000 in
theorem v_M_readFamily_0 {G : q_G} {d : Nat} {σ : q_S} {Q : Option Value → q_S → Prop}   (hs : q_Sh σ) (h : ((¬ (q_I σ 165 201) = (q_I σ 165 200) → q_Call G d 0 0 X_M_readName [.ref 159, .int (20 + (q_I σ 165 201))] σ (q_rv (fun σ8 => q_Call G d 0 0 X_M_takeOne [.ref 159, .int 18, .int 4] σ8 (q_ri (fun x13 σ11 => (∃ k15, (244 + (4 * (q_I σ 165 201))) = nI k15 ∧ k15 < 400 ∧ q_Call G d 0 0 X_M_takeAfter [.ref 159, .int 3, .int 0, .int 9] (q_setI σ11 165 k15 x13) (q_ri (fun x19 σ17 => (∃ k21, ((244 + (4 * (q_I σ 165 201))) + 1) = nI k21 ∧ k21 < 400 ∧ q_Call G d 0 0 X_M_takeAfter [.ref 159, .int 4, .int 0, .int 9] (q_setI σ17 165 k21 x19) (q_ri (fun x25 σ23 => (∃ k27, ((244 + (4 * (q_I σ 165 201))) + 2) = nI k27 ∧ k27 < 400 ∧ q_Call G d 0 0 X_M_takeAfter [.ref 159, .int 5, .int 0, .int 999] (q_setI σ23 165 k27 x25) (q_ri (fun x31 σ29 => (∃ k33, ((244 + (4 * (q_I σ 165 201))) + 3) = nI k33 ∧ k33 < 400 ∧ Q none (q_setI (q_setI σ29 165 k33 x31) 165 201 ((q_I (q_setI σ29 165 k33 x31) 165 201) + 1))))))))))))))))) ∧ ((q_I σ 165 201) = (q_I σ 165 200) → q_Call G d 0 0 X_M_wrong [.ref 159, .int 5] σ (q_rv (fun σ40 => Q none σ40))))) : q_At G X_M_readFamily (d + 1) 0 0 0 [some (.ref 159), none, none] [] σ Q := by
  refine q_aload_n o_M_readFamily_0 rfl ?_
  refine q2_getR hs o_M_readFamily_1 f_M_103 rfl (fz_159_10 hs) ?_
  refine q_sipush (v := 201) o_M_readFamily_4 (by decide) ?_
  refine q2_iald (i := 201) hs o_M_readFamily_7 rfl rfl (by decide) (by decide) ?_
  refine q2_istn (ls' := [some (.ref 159), some (.int (q_I σ 165 201)), none]) o_M_readFamily_8 (Nat.le_of_ble_eq_true rfl) rfl ?_
  refine q_iload_n o_M_readFamily_9 rfl ?_
  refine q_aload_n o_M_readFamily_10 rfl ?_
  refine q2_getR hs o_M_readFamily_11 f_M_103 rfl (fz_159_10 hs) ?_
  refine q_sipush (v := 200) o_M_readFamily_14 (by decide) ?_
  refine q2_iald (i := 200) hs o_M_readFamily_17 rfl rfl (by decide) (by decide) ?_
  refine q_icmp_ne o_M_readFamily_18 (fun c5 => ?_) (fun c5 => ?_)
  · have h6 := h.1 c5
    refine q_aload_n o_M_readFamily_27 rfl ?_
    refine q_bipush (v := 20) o_M_readFamily_28 (by decide) ?_
    refine q_iload_n o_M_readFamily_30 rfl ?_
    refine q_iadd o_M_readFamily_31 ?_
    refine q2_callVv _ (a := 159) (As := [.int (20 + (q_I σ 165 201))]) (st := []) hs o_M_readFamily_32 k_M_265 rfl rfl (Nat.le_of_ble_eq_true rfl) h6 (fun σ8 hs9 h7 => ?_)
    refine q_sipush (v := 244) o_M_readFamily_35 (by decide) ?_
    refine q_iconst (v := 4) o_M_readFamily_38 (by decide) ?_
    refine q_iload_n o_M_readFamily_39 rfl ?_
    refine q_imul o_M_readFamily_40 ?_
    refine q_iadd o_M_readFamily_41 ?_
    refine q2_istn (ls' := [some (.ref 159), some (.int (q_I σ 165 201)), some (.int (244 + (4 * (q_I σ 165 201))))]) o_M_readFamily_42 (Nat.le_of_ble_eq_true rfl) rfl ?_
    refine q_aload_n o_M_readFamily_43 rfl ?_
    refine q2_getR hs9 o_M_readFamily_44 f_M_103 rfl (fz_159_10 hs9) ?_
    refine q_iload_n o_M_readFamily_47 rfl ?_
    refine q_aload_n o_M_readFamily_48 rfl ?_
    refine q_bipush (v := 18) o_M_readFamily_49 (by decide) ?_
    refine q_iconst (v := 4) o_M_readFamily_51 (by decide) ?_
    refine q2_callVi _ (a := 159) (As := [.int 18, .int 4]) (st := [.int (244 + (4 * (q_I σ 165 201))), .ref 165]) hs9 o_M_readFamily_52 k_M_271 rfl rfl (Nat.le_of_ble_eq_true rfl) h7 (fun x13 σ11 hs12 h10 => ?_)
    obtain ⟨k15, eh14, bh14, h14⟩ := h10
    refine q2_iast hs12 o_M_readFamily_55 rfl eh14 bh14 (by decide) ?_
    refine q_aload_n o_M_readFamily_56 rfl ?_
    refine q2_getR hs12 o_M_readFamily_57 f_M_103 rfl (fz_159_10 hs12) ?_
    refine q_iload_n o_M_readFamily_60 rfl ?_
    refine q_iconst (v := 1) o_M_readFamily_61 (by decide) ?_
    refine q_iadd o_M_readFamily_62 ?_
    refine q_aload_n o_M_readFamily_63 rfl ?_
    refine q_iconst (v := 3) o_M_readFamily_64 (by decide) ?_
    refine q_iconst (v := 0) o_M_readFamily_65 (by decide) ?_
    refine q_bipush (v := 9) o_M_readFamily_66 (by decide) ?_
    refine q2_callVi _ (a := 159) (As := [.int 3, .int 0, .int 9]) (st := [.int ((244 + (4 * (q_I σ 165 201))) + 1), .ref 165]) hs12 o_M_readFamily_68 k_M_274 rfl rfl (Nat.le_of_ble_eq_true rfl) h14 (fun x19 σ17 hs18 h16 => ?_)
    obtain ⟨k21, eh20, bh20, h20⟩ := h16
    refine q2_iast hs18 o_M_readFamily_71 rfl eh20 bh20 (by decide) ?_
    refine q_aload_n o_M_readFamily_72 rfl ?_
    refine q2_getR hs18 o_M_readFamily_73 f_M_103 rfl (fz_159_10 hs18) ?_
    refine q_iload_n o_M_readFamily_76 rfl ?_
    refine q_iconst (v := 2) o_M_readFamily_77 (by decide) ?_
    refine q_iadd o_M_readFamily_78 ?_
    refine q_aload_n o_M_readFamily_79 rfl ?_
    refine q_iconst (v := 4) o_M_readFamily_80 (by decide) ?_
    refine q_iconst (v := 0) o_M_readFamily_81 (by decide) ?_
    refine q_bipush (v := 9) o_M_readFamily_82 (by decide) ?_
    refine q2_callVi _ (a := 159) (As := [.int 4, .int 0, .int 9]) (st := [.int ((244 + (4 * (q_I σ 165 201))) + 2), .ref 165]) hs18 o_M_readFamily_84 k_M_274 rfl rfl (Nat.le_of_ble_eq_true rfl) h20 (fun x25 σ23 hs24 h22 => ?_)
    obtain ⟨k27, eh26, bh26, h26⟩ := h22
    refine q2_iast hs24 o_M_readFamily_87 rfl eh26 bh26 (by decide) ?_
    refine q_aload_n o_M_readFamily_88 rfl ?_
    refine q2_getR hs24 o_M_readFamily_89 f_M_103 rfl (fz_159_10 hs24) ?_
    refine q_iload_n o_M_readFamily_92 rfl ?_
    refine q_iconst (v := 3) o_M_readFamily_93 (by decide) ?_
    refine q_iadd o_M_readFamily_94 ?_
    refine q_aload_n o_M_readFamily_95 rfl ?_
    refine q_iconst (v := 5) o_M_readFamily_96 (by decide) ?_
    refine q_iconst (v := 0) o_M_readFamily_97 (by decide) ?_
    refine q_sipush (v := 999) o_M_readFamily_98 (by decide) ?_
    refine q2_callVi _ (a := 159) (As := [.int 5, .int 0, .int 999]) (st := [.int ((244 + (4 * (q_I σ 165 201))) + 3), .ref 165]) hs24 o_M_readFamily_101 k_M_274 rfl rfl (Nat.le_of_ble_eq_true rfl) h26 (fun x31 σ29 hs30 h28 => ?_)
    obtain ⟨k33, eh32, bh32, h32⟩ := h28
    refine q2_iast hs30 o_M_readFamily_104 rfl eh32 bh32 (by decide) ?_
    refine q_aload_n o_M_readFamily_105 rfl ?_
    refine q2_getR hs30 o_M_readFamily_106 f_M_103 rfl (fz_159_10 hs30) ?_
    refine q_sipush (v := 201) o_M_readFamily_109 (by decide) ?_
    refine q_dup2 o_M_readFamily_112 rfl rfl ?_
    refine q2_iald (i := 201) hs30 o_M_readFamily_113 rfl rfl (by decide) (by decide) ?_
    refine q_iconst (v := 1) o_M_readFamily_114 (by decide) ?_
    refine q_iadd o_M_readFamily_115 ?_
    refine q2_iast (i := 201) hs30 o_M_readFamily_116 rfl rfl (by decide) (by decide) ?_
    exact q_vre o_M_readFamily_117 rfl h32
  · have h38 := h.2 c5
    refine q_aload_n o_M_readFamily_21 rfl ?_
    refine q_iconst (v := 5) o_M_readFamily_22 (by decide) ?_
    refine q2_callVv _ (a := 159) (As := [.int 5]) (st := []) hs o_M_readFamily_23 k_M_194 rfl rfl (Nat.le_of_ble_eq_true rfl) h38 (fun σ40 hs41 h39 => ?_)
    exact q_vre o_M_readFamily_26 rfl h39

set_option maxRecDepth 20000 in
theorem v_M_readLiking_0 {G : q_G} {d : Nat} {σ : q_S} {Q : Option Value → q_S → Prop} {p0 : Int32}  (hs : q_Sh σ) (h : q_Call G d 0 0 X_M_takeTold [.ref 159, .int 1, .int 20] (q_setI σ 159 7 ((q_I σ 159 7) + 1)) (q_ri (fun x4 σ2 => q_Call G d 0 0 X_M_toldHere [.ref 159, .int 1, .int 20] σ2 (q_ri (fun x8 σ6 => ((¬ (q_I σ6 159 8) = 0 → q_Call G d 0 0 X_M_takeNumber [.ref 159, .int 1, .int (if 2 ≤ p0 then (99 : Int32) else (9 : Int32))] (q_setI σ6 159 7 ((q_I σ6 159 7) + (if (q_I σ6 159 8) ≤ 0 then (1 : Int32) else (0 : Int32)))) (q_ri (fun x16 σ14 => (((q_I σ14 159 8) ≤ 0 → (∃ k20, (((268 + (36 * p0)) + (6 * x4)) + x8) = nI k20 ∧ k20 < 400 ∧ Q none (q_setI σ14 165 k20 x16))) ∧ (¬ (q_I σ14 159 8) ≤ 0 → (∃ k23, (((268 + (36 * p0)) + (6 * x4)) + x8) = nI k23 ∧ k23 < 400 ∧ (∃ k25, (((268 + (36 * p0)) + (6 * x4)) + x8) = nI k25 ∧ k25 < 400 ∧ Q none (q_setI σ14 165 k25 (q_I σ14 165 k23))))))))) ∧ ((q_I σ6 159 8) = 0 → ((x4 = x8 → q_Call G d 0 0 X_M_wrong [.ref 159, .int 3] σ6 (q_rv (fun σ30 => q_Call G d 0 0 X_M_takeNumber [.ref 159, .int 1, .int (if 2 ≤ p0 then (99 : Int32) else (9 : Int32))] (q_setI σ30 159 7 ((q_I σ30 159 7) + (if (q_I σ30 159 8) ≤ 0 then (1 : Int32) else (0 : Int32)))) (q_ri (fun x37 σ35 => (((q_I σ35 159 8) ≤ 0 → (∃ k41, (((268 + (36 * p0)) + (6 * x4)) + x8) = nI k41 ∧ k41 < 400 ∧ Q none (q_setI σ35 165 k41 x37))) ∧ (¬ (q_I σ35 159 8) ≤ 0 → (∃ k44, (((268 + (36 * p0)) + (6 * x4)) + x8) = nI k44 ∧ k44 < 400 ∧ (∃ k46, (((268 + (36 * p0)) + (6 * x4)) + x8) = nI k46 ∧ k46 < 400 ∧ Q none (q_setI σ35 165 k46 (q_I σ35 165 k44))))))))))) ∧ (¬ x4 = x8 → (∃ k49, (((268 + (36 * p0)) + (6 * x4)) + x8) = nI k49 ∧ k49 < 400 ∧ (((q_I σ6 165 k49) ≤ 0 → q_Call G d 0 0 X_M_takeNumber [.ref 159, .int 1, .int (if 2 ≤ p0 then (99 : Int32) else (9 : Int32))] (q_setI σ6 159 7 ((q_I σ6 159 7) + (if (q_I σ6 159 8) ≤ 0 then (1 : Int32) else (0 : Int32)))) (q_ri (fun x57 σ55 => (((q_I σ55 159 8) ≤ 0 → (∃ k61, (((268 + (36 * p0)) + (6 * x4)) + x8) = nI k61 ∧ k61 < 400 ∧ Q none (q_setI σ55 165 k61 x57))) ∧ (¬ (q_I σ55 159 8) ≤ 0 → (∃ k64, (((268 + (36 * p0)) + (6 * x4)) + x8) = nI k64 ∧ k64 < 400 ∧ (∃ k66, (((268 + (36 * p0)) + (6 * x4)) + x8) = nI k66 ∧ k66 < 400 ∧ Q none (q_setI σ55 165 k66 (q_I σ55 165 k64))))))))) ∧ (¬ (q_I σ6 165 k49) ≤ 0 → q_Call G d 0 0 X_M_wrong [.ref 159, .int 3] σ6 (q_rv (fun σ69 => q_Call G d 0 0 X_M_takeNumber [.ref 159, .int 1, .int (if 2 ≤ p0 then (99 : Int32) else (9 : Int32))] (q_setI σ69 159 7 ((q_I σ69 159 7) + (if (q_I σ69 159 8) ≤ 0 then (1 : Int32) else (0 : Int32)))) (q_ri (fun x76 σ74 => (((q_I σ74 159 8) ≤ 0 → (∃ k80, (((268 + (36 * p0)) + (6 * x4)) + x8) = nI k80 ∧ k80 < 400 ∧ Q none (q_setI σ74 165 k80 x76))) ∧ (¬ (q_I σ74 159 8) ≤ 0 → (∃ k83, (((268 + (36 * p0)) + (6 * x4)) + x8) = nI k83 ∧ k83 < 400 ∧ (∃ k85, (((268 + (36 * p0)) + (6 * x4)) + x8) = nI k85 ∧ k85 < 400 ∧ Q none (q_setI σ74 165 k85 (q_I σ74 165 k83)))))))))))))))))))))) : q_At G X_M_readLiking (d + 1) 0 0 0 [some (.ref 159), some (.int p0), none, none, none, none] [] σ Q := by
  refine q_aload_n o_M_readLiking_0 rfl ?_
  refine q_dup o_M_readLiking_1 rfl ?_
  refine q2_getI hs o_M_readLiking_2 f_M_185 rfl ?_
  refine q_iconst (v := 1) o_M_readLiking_5 (by decide) ?_
  refine q_iadd o_M_readLiking_6 ?_
  refine q2_putI hs o_M_readLiking_7 fp_M_185 rfl rfl rfl ?_
  refine q_aload_n o_M_readLiking_10 rfl ?_
  refine q_iconst (v := 1) o_M_readLiking_11 (by decide) ?_
  refine q_bipush (v := 20) o_M_readLiking_12 (by decide) ?_
  refine q2_callVi _ (a := 159) (As := [.int 1, .int 20]) (st := []) hs o_M_readLiking_14 k_M_268 rfl rfl (Nat.le_of_ble_eq_true rfl) h (fun x4 σ2 hs3 h1 => ?_)
  refine q2_istn (ls' := [some (.ref 159), some (.int p0), some (.int x4), none, none, none]) o_M_readLiking_17 (Nat.le_of_ble_eq_true rfl) rfl ?_
  refine q_aload_n o_M_readLiking_18 rfl ?_
  refine q_iconst (v := 1) o_M_readLiking_19 (by decide) ?_
  refine q_bipush (v := 20) o_M_readLiking_20 (by decide) ?_
  refine q2_callVi _ (a := 159) (As := [.int 1, .int 20]) (st := []) hs3 o_M_readLiking_22 k_M_231 rfl rfl (Nat.le_of_ble_eq_true rfl) h1 (fun x8 σ6 hs7 h5 => ?_)
  refine q2_istn (ls' := [some (.ref 159), some (.int p0), some (.int x4), some (.int x8), none, none]) o_M_readLiking_25 (Nat.le_of_ble_eq_true rfl) rfl ?_
  refine q_sipush (v := 268) o_M_readLiking_26 (by decide) ?_
  refine q_bipush (v := 36) o_M_readLiking_29 (by decide) ?_
  refine q_iload_n o_M_readLiking_31 rfl ?_
  refine q_imul o_M_readLiking_32 ?_
  refine q_iadd o_M_readLiking_33 ?_
  refine q_bipush (v := 6) o_M_readLiking_34 (by decide) ?_
  refine q_iload_n o_M_readLiking_36 rfl ?_
  refine q_imul o_M_readLiking_37 ?_
  refine q_iadd o_M_readLiking_38 ?_
  refine q_iload_n o_M_readLiking_39 rfl ?_
  refine q_iadd o_M_readLiking_40 ?_
  refine q2_ist (ls' := [some (.ref 159), some (.int p0), some (.int x4), some (.int x8), some (.int (((268 + (36 * p0)) + (6 * x4)) + x8)), none]) o_M_readLiking_41 (Nat.le_of_ble_eq_true rfl) rfl ?_
  refine q_aload_n o_M_readLiking_43 rfl ?_
  refine q2_getI hs7 o_M_readLiking_44 f_M_188 rfl ?_
  refine q_if_ne o_M_readLiking_47 (fun c9 => ?_) (fun c9 => ?_)
  · have h10 := h5.1 c9
    refine q_aload_n o_M_readLiking_70 rfl ?_
    refine q_dup o_M_readLiking_71 rfl ?_
    refine q2_getI hs7 o_M_readLiking_72 f_M_185 rfl ?_
    refine q_aload_n o_M_readLiking_75 rfl ?_
    refine q2_getI hs7 o_M_readLiking_76 f_M_188 rfl ?_
    have hJ : ∀ vJ : Int32, vJ = (if (q_I σ6 159 8) ≤ 0 then (1 : Int32) else (0 : Int32)) → q_At G X_M_readLiking (d + 1) 0 0 87 [some (.ref 159), some (.int p0), some (.int x4), some (.int x8), some (.int (((268 + (36 * p0)) + (6 * x4)) + x8)), none] [.int vJ, .int (q_I σ6 159 7), .ref 159] σ6 Q := by
      intro vJ eJ
      rw [eJ]
      clear eJ vJ
      refine q_iadd o_M_readLiking_87 ?_
      refine q2_putI hs7 o_M_readLiking_88 fp_M_185 rfl rfl rfl ?_
      refine q_aload_n o_M_readLiking_91 rfl ?_
      refine q_iconst (v := 1) o_M_readLiking_92 (by decide) ?_
      refine q_iload_n o_M_readLiking_93 rfl ?_
      refine q_iconst (v := 2) o_M_readLiking_94 (by decide) ?_
      have hJ : ∀ vJ : Int32, vJ = (if 2 ≤ p0 then (99 : Int32) else (9 : Int32)) → q_At G X_M_readLiking (d + 1) 0 0 105 [some (.ref 159), some (.int p0), some (.int x4), some (.int x8), some (.int (((268 + (36 * p0)) + (6 * x4)) + x8)), none] [.int vJ, .int 1, .ref 159] (q_setI σ6 159 7 ((q_I σ6 159 7) + (if (q_I σ6 159 8) ≤ 0 then (1 : Int32) else (0 : Int32)))) Q := by
        intro vJ eJ
        rw [eJ]
        clear eJ vJ
        refine q2_callVi _ (a := 159) (As := [.int 1, .int (if 2 ≤ p0 then (99 : Int32) else (9 : Int32))]) (st := []) hs7 o_M_readLiking_105 k_M_206 rfl rfl (Nat.le_of_ble_eq_true rfl) h10 (fun x16 σ14 hs15 h13 => ?_)
        refine q2_ist (ls' := [some (.ref 159), some (.int p0), some (.int x4), some (.int x8), some (.int (((268 + (36 * p0)) + (6 * x4)) + x8)), some (.int x16)]) o_M_readLiking_108 (Nat.le_of_ble_eq_true rfl) rfl ?_
        refine q_aload_n o_M_readLiking_110 rfl ?_
        refine q2_getR hs15 o_M_readLiking_111 f_M_103 rfl (fz_159_10 hs15) ?_
        refine q_iload o_M_readLiking_114 rfl ?_
        refine q_aload_n o_M_readLiking_116 rfl ?_
        refine q2_getI hs15 o_M_readLiking_117 f_M_188 rfl ?_
        refine q_if_le o_M_readLiking_120 (fun c17 => ?_) (fun c17 => ?_)
        · have h18 := h13.1 c17
          refine q_iload o_M_readLiking_133 rfl ?_
          obtain ⟨k20, eh19, bh19, h19⟩ := h18
          refine q2_iast hs15 o_M_readLiking_135 rfl eh19 bh19 (by decide) ?_
          exact q_vre o_M_readLiking_136 rfl h19
        · have h21 := h13.2 c17
          refine q_aload_n o_M_readLiking_123 rfl ?_
          refine q2_getR hs15 o_M_readLiking_124 f_M_103 rfl (fz_159_10 hs15) ?_
          refine q_iload o_M_readLiking_127 rfl ?_
          obtain ⟨k23, eh22, bh22, h22⟩ := h21
          refine q2_iald hs15 o_M_readLiking_129 rfl eh22 bh22 (by decide) ?_
          refine q_goto o_M_readLiking_130 ?_
          obtain ⟨k25, eh24, bh24, h24⟩ := h22
          refine q2_iast hs15 o_M_readLiking_135 rfl eh24 bh24 (by decide) ?_
          exact q_vre o_M_readLiking_136 rfl h24
      refine q_icmp_ge o_M_readLiking_95 (fun c12 => ?_) (fun c12 => ?_)
      · refine q_bipush (v := 99) o_M_readLiking_103 (by decide) ?_
        exact hJ _ (Eq.symm (if_pos c12))
      · refine q_bipush (v := 9) o_M_readLiking_98 (by decide) ?_
        refine q_goto o_M_readLiking_100 ?_
        exact hJ _ (Eq.symm (if_neg c12))
    refine q_if_le o_M_readLiking_79 (fun c11 => ?_) (fun c11 => ?_)
    · refine q_iconst (v := 1) o_M_readLiking_86 (by decide) ?_
      exact hJ _ (Eq.symm (if_pos c11))
    · refine q_iconst (v := 0) o_M_readLiking_82 (by decide) ?_
      refine q_goto o_M_readLiking_83 ?_
      exact hJ _ (Eq.symm (if_neg c11))
  · have h26 := h5.2 c9
    refine q_iload_n o_M_readLiking_50 rfl ?_
    refine q_iload_n o_M_readLiking_51 rfl ?_
    refine q_icmp_eq o_M_readLiking_52 (fun c27 => ?_) (fun c27 => ?_)
    · have h28 := h26.1 c27
      refine q_aload_n o_M_readLiking_65 rfl ?_
      refine q_iconst (v := 3) o_M_readLiking_66 (by decide) ?_
      refine q2_callVv _ (a := 159) (As := [.int 3]) (st := []) hs7 o_M_readLiking_67 k_M_194 rfl rfl (Nat.le_of_ble_eq_true rfl) h28 (fun σ30 hs31 h29 => ?_)
      refine q_aload_n o_M_readLiking_70 rfl ?_
      refine q_dup o_M_readLiking_71 rfl ?_
      refine q2_getI hs31 o_M_readLiking_72 f_M_185 rfl ?_
      refine q_aload_n o_M_readLiking_75 rfl ?_
      refine q2_getI hs31 o_M_readLiking_76 f_M_188 rfl ?_
      have hJ : ∀ vJ : Int32, vJ = (if (q_I σ30 159 8) ≤ 0 then (1 : Int32) else (0 : Int32)) → q_At G X_M_readLiking (d + 1) 0 0 87 [some (.ref 159), some (.int p0), some (.int x4), some (.int x8), some (.int (((268 + (36 * p0)) + (6 * x4)) + x8)), none] [.int vJ, .int (q_I σ30 159 7), .ref 159] σ30 Q := by
        intro vJ eJ
        rw [eJ]
        clear eJ vJ
        refine q_iadd o_M_readLiking_87 ?_
        refine q2_putI hs31 o_M_readLiking_88 fp_M_185 rfl rfl rfl ?_
        refine q_aload_n o_M_readLiking_91 rfl ?_
        refine q_iconst (v := 1) o_M_readLiking_92 (by decide) ?_
        refine q_iload_n o_M_readLiking_93 rfl ?_
        refine q_iconst (v := 2) o_M_readLiking_94 (by decide) ?_
        have hJ : ∀ vJ : Int32, vJ = (if 2 ≤ p0 then (99 : Int32) else (9 : Int32)) → q_At G X_M_readLiking (d + 1) 0 0 105 [some (.ref 159), some (.int p0), some (.int x4), some (.int x8), some (.int (((268 + (36 * p0)) + (6 * x4)) + x8)), none] [.int vJ, .int 1, .ref 159] (q_setI σ30 159 7 ((q_I σ30 159 7) + (if (q_I σ30 159 8) ≤ 0 then (1 : Int32) else (0 : Int32)))) Q := by
          intro vJ eJ
          rw [eJ]
          clear eJ vJ
          refine q2_callVi _ (a := 159) (As := [.int 1, .int (if 2 ≤ p0 then (99 : Int32) else (9 : Int32))]) (st := []) hs31 o_M_readLiking_105 k_M_206 rfl rfl (Nat.le_of_ble_eq_true rfl) h29 (fun x37 σ35 hs36 h34 => ?_)
          refine q2_ist (ls' := [some (.ref 159), some (.int p0), some (.int x4), some (.int x8), some (.int (((268 + (36 * p0)) + (6 * x4)) + x8)), some (.int x37)]) o_M_readLiking_108 (Nat.le_of_ble_eq_true rfl) rfl ?_
          refine q_aload_n o_M_readLiking_110 rfl ?_
          refine q2_getR hs36 o_M_readLiking_111 f_M_103 rfl (fz_159_10 hs36) ?_
          refine q_iload o_M_readLiking_114 rfl ?_
          refine q_aload_n o_M_readLiking_116 rfl ?_
          refine q2_getI hs36 o_M_readLiking_117 f_M_188 rfl ?_
          refine q_if_le o_M_readLiking_120 (fun c38 => ?_) (fun c38 => ?_)
          · have h39 := h34.1 c38
            refine q_iload o_M_readLiking_133 rfl ?_
            obtain ⟨k41, eh40, bh40, h40⟩ := h39
            refine q2_iast hs36 o_M_readLiking_135 rfl eh40 bh40 (by decide) ?_
            exact q_vre o_M_readLiking_136 rfl h40
          · have h42 := h34.2 c38
            refine q_aload_n o_M_readLiking_123 rfl ?_
            refine q2_getR hs36 o_M_readLiking_124 f_M_103 rfl (fz_159_10 hs36) ?_
            refine q_iload o_M_readLiking_127 rfl ?_
            obtain ⟨k44, eh43, bh43, h43⟩ := h42
            refine q2_iald hs36 o_M_readLiking_129 rfl eh43 bh43 (by decide) ?_
            refine q_goto o_M_readLiking_130 ?_
            obtain ⟨k46, eh45, bh45, h45⟩ := h43
            refine q2_iast hs36 o_M_readLiking_135 rfl eh45 bh45 (by decide) ?_
            exact q_vre o_M_readLiking_136 rfl h45
        refine q_icmp_ge o_M_readLiking_95 (fun c33 => ?_) (fun c33 => ?_)
        · refine q_bipush (v := 99) o_M_readLiking_103 (by decide) ?_
          exact hJ _ (Eq.symm (if_pos c33))
        · refine q_bipush (v := 9) o_M_readLiking_98 (by decide) ?_
          refine q_goto o_M_readLiking_100 ?_
          exact hJ _ (Eq.symm (if_neg c33))
      refine q_if_le o_M_readLiking_79 (fun c32 => ?_) (fun c32 => ?_)
      · refine q_iconst (v := 1) o_M_readLiking_86 (by decide) ?_
        exact hJ _ (Eq.symm (if_pos c32))
      · refine q_iconst (v := 0) o_M_readLiking_82 (by decide) ?_
        refine q_goto o_M_readLiking_83 ?_
        exact hJ _ (Eq.symm (if_neg c32))
    · have h47 := h26.2 c27
      refine q_aload_n o_M_readLiking_55 rfl ?_
      refine q2_getR hs7 o_M_readLiking_56 f_M_103 rfl (fz_159_10 hs7) ?_
      refine q_iload o_M_readLiking_59 rfl ?_
      obtain ⟨k49, eh48, bh48, h48⟩ := h47
      refine q2_iald hs7 o_M_readLiking_61 rfl eh48 bh48 (by decide) ?_
      refine q_if_le o_M_readLiking_62 (fun c50 => ?_) (fun c50 => ?_)
      · have h51 := h48.1 c50
        refine q_aload_n o_M_readLiking_70 rfl ?_
        refine q_dup o_M_readLiking_71 rfl ?_
        refine q2_getI hs7 o_M_readLiking_72 f_M_185 rfl ?_
        refine q_aload_n o_M_readLiking_75 rfl ?_
        refine q2_getI hs7 o_M_readLiking_76 f_M_188 rfl ?_
        have hJ : ∀ vJ : Int32, vJ = (if (q_I σ6 159 8) ≤ 0 then (1 : Int32) else (0 : Int32)) → q_At G X_M_readLiking (d + 1) 0 0 87 [some (.ref 159), some (.int p0), some (.int x4), some (.int x8), some (.int (((268 + (36 * p0)) + (6 * x4)) + x8)), none] [.int vJ, .int (q_I σ6 159 7), .ref 159] σ6 Q := by
          intro vJ eJ
          rw [eJ]
          clear eJ vJ
          refine q_iadd o_M_readLiking_87 ?_
          refine q2_putI hs7 o_M_readLiking_88 fp_M_185 rfl rfl rfl ?_
          refine q_aload_n o_M_readLiking_91 rfl ?_
          refine q_iconst (v := 1) o_M_readLiking_92 (by decide) ?_
          refine q_iload_n o_M_readLiking_93 rfl ?_
          refine q_iconst (v := 2) o_M_readLiking_94 (by decide) ?_
          have hJ : ∀ vJ : Int32, vJ = (if 2 ≤ p0 then (99 : Int32) else (9 : Int32)) → q_At G X_M_readLiking (d + 1) 0 0 105 [some (.ref 159), some (.int p0), some (.int x4), some (.int x8), some (.int (((268 + (36 * p0)) + (6 * x4)) + x8)), none] [.int vJ, .int 1, .ref 159] (q_setI σ6 159 7 ((q_I σ6 159 7) + (if (q_I σ6 159 8) ≤ 0 then (1 : Int32) else (0 : Int32)))) Q := by
            intro vJ eJ
            rw [eJ]
            clear eJ vJ
            refine q2_callVi _ (a := 159) (As := [.int 1, .int (if 2 ≤ p0 then (99 : Int32) else (9 : Int32))]) (st := []) hs7 o_M_readLiking_105 k_M_206 rfl rfl (Nat.le_of_ble_eq_true rfl) h51 (fun x57 σ55 hs56 h54 => ?_)
            refine q2_ist (ls' := [some (.ref 159), some (.int p0), some (.int x4), some (.int x8), some (.int (((268 + (36 * p0)) + (6 * x4)) + x8)), some (.int x57)]) o_M_readLiking_108 (Nat.le_of_ble_eq_true rfl) rfl ?_
            refine q_aload_n o_M_readLiking_110 rfl ?_
            refine q2_getR hs56 o_M_readLiking_111 f_M_103 rfl (fz_159_10 hs56) ?_
            refine q_iload o_M_readLiking_114 rfl ?_
            refine q_aload_n o_M_readLiking_116 rfl ?_
            refine q2_getI hs56 o_M_readLiking_117 f_M_188 rfl ?_
            refine q_if_le o_M_readLiking_120 (fun c58 => ?_) (fun c58 => ?_)
            · have h59 := h54.1 c58
              refine q_iload o_M_readLiking_133 rfl ?_
              obtain ⟨k61, eh60, bh60, h60⟩ := h59
              refine q2_iast hs56 o_M_readLiking_135 rfl eh60 bh60 (by decide) ?_
              exact q_vre o_M_readLiking_136 rfl h60
            · have h62 := h54.2 c58
              refine q_aload_n o_M_readLiking_123 rfl ?_
              refine q2_getR hs56 o_M_readLiking_124 f_M_103 rfl (fz_159_10 hs56) ?_
              refine q_iload o_M_readLiking_127 rfl ?_
              obtain ⟨k64, eh63, bh63, h63⟩ := h62
              refine q2_iald hs56 o_M_readLiking_129 rfl eh63 bh63 (by decide) ?_
              refine q_goto o_M_readLiking_130 ?_
              obtain ⟨k66, eh65, bh65, h65⟩ := h63
              refine q2_iast hs56 o_M_readLiking_135 rfl eh65 bh65 (by decide) ?_
              exact q_vre o_M_readLiking_136 rfl h65
          refine q_icmp_ge o_M_readLiking_95 (fun c53 => ?_) (fun c53 => ?_)
          · refine q_bipush (v := 99) o_M_readLiking_103 (by decide) ?_
            exact hJ _ (Eq.symm (if_pos c53))
          · refine q_bipush (v := 9) o_M_readLiking_98 (by decide) ?_
            refine q_goto o_M_readLiking_100 ?_
            exact hJ _ (Eq.symm (if_neg c53))
        refine q_if_le o_M_readLiking_79 (fun c52 => ?_) (fun c52 => ?_)
        · refine q_iconst (v := 1) o_M_readLiking_86 (by decide) ?_
          exact hJ _ (Eq.symm (if_pos c52))
        · refine q_iconst (v := 0) o_M_readLiking_82 (by decide) ?_
          refine q_goto o_M_readLiking_83 ?_
          exact hJ _ (Eq.symm (if_neg c52))
      · have h67 := h48.2 c50
        refine q_aload_n o_M_readLiking_65 rfl ?_
        refine q_iconst (v := 3) o_M_readLiking_66 (by decide) ?_
        refine q2_callVv _ (a := 159) (As := [.int 3]) (st := []) hs7 o_M_readLiking_67 k_M_194 rfl rfl (Nat.le_of_ble_eq_true rfl) h67 (fun σ69 hs70 h68 => ?_)
        refine q_aload_n o_M_readLiking_70 rfl ?_
        refine q_dup o_M_readLiking_71 rfl ?_
        refine q2_getI hs70 o_M_readLiking_72 f_M_185 rfl ?_
        refine q_aload_n o_M_readLiking_75 rfl ?_
        refine q2_getI hs70 o_M_readLiking_76 f_M_188 rfl ?_
        have hJ : ∀ vJ : Int32, vJ = (if (q_I σ69 159 8) ≤ 0 then (1 : Int32) else (0 : Int32)) → q_At G X_M_readLiking (d + 1) 0 0 87 [some (.ref 159), some (.int p0), some (.int x4), some (.int x8), some (.int (((268 + (36 * p0)) + (6 * x4)) + x8)), none] [.int vJ, .int (q_I σ69 159 7), .ref 159] σ69 Q := by
          intro vJ eJ
          rw [eJ]
          clear eJ vJ
          refine q_iadd o_M_readLiking_87 ?_
          refine q2_putI hs70 o_M_readLiking_88 fp_M_185 rfl rfl rfl ?_
          refine q_aload_n o_M_readLiking_91 rfl ?_
          refine q_iconst (v := 1) o_M_readLiking_92 (by decide) ?_
          refine q_iload_n o_M_readLiking_93 rfl ?_
          refine q_iconst (v := 2) o_M_readLiking_94 (by decide) ?_
          have hJ : ∀ vJ : Int32, vJ = (if 2 ≤ p0 then (99 : Int32) else (9 : Int32)) → q_At G X_M_readLiking (d + 1) 0 0 105 [some (.ref 159), some (.int p0), some (.int x4), some (.int x8), some (.int (((268 + (36 * p0)) + (6 * x4)) + x8)), none] [.int vJ, .int 1, .ref 159] (q_setI σ69 159 7 ((q_I σ69 159 7) + (if (q_I σ69 159 8) ≤ 0 then (1 : Int32) else (0 : Int32)))) Q := by
            intro vJ eJ
            rw [eJ]
            clear eJ vJ
            refine q2_callVi _ (a := 159) (As := [.int 1, .int (if 2 ≤ p0 then (99 : Int32) else (9 : Int32))]) (st := []) hs70 o_M_readLiking_105 k_M_206 rfl rfl (Nat.le_of_ble_eq_true rfl) h68 (fun x76 σ74 hs75 h73 => ?_)
            refine q2_ist (ls' := [some (.ref 159), some (.int p0), some (.int x4), some (.int x8), some (.int (((268 + (36 * p0)) + (6 * x4)) + x8)), some (.int x76)]) o_M_readLiking_108 (Nat.le_of_ble_eq_true rfl) rfl ?_
            refine q_aload_n o_M_readLiking_110 rfl ?_
            refine q2_getR hs75 o_M_readLiking_111 f_M_103 rfl (fz_159_10 hs75) ?_
            refine q_iload o_M_readLiking_114 rfl ?_
            refine q_aload_n o_M_readLiking_116 rfl ?_
            refine q2_getI hs75 o_M_readLiking_117 f_M_188 rfl ?_
            refine q_if_le o_M_readLiking_120 (fun c77 => ?_) (fun c77 => ?_)
            · have h78 := h73.1 c77
              refine q_iload o_M_readLiking_133 rfl ?_
              obtain ⟨k80, eh79, bh79, h79⟩ := h78
              refine q2_iast hs75 o_M_readLiking_135 rfl eh79 bh79 (by decide) ?_
              exact q_vre o_M_readLiking_136 rfl h79
            · have h81 := h73.2 c77
              refine q_aload_n o_M_readLiking_123 rfl ?_
              refine q2_getR hs75 o_M_readLiking_124 f_M_103 rfl (fz_159_10 hs75) ?_
              refine q_iload o_M_readLiking_127 rfl ?_
              obtain ⟨k83, eh82, bh82, h82⟩ := h81
              refine q2_iald hs75 o_M_readLiking_129 rfl eh82 bh82 (by decide) ?_
              refine q_goto o_M_readLiking_130 ?_
              obtain ⟨k85, eh84, bh84, h84⟩ := h82
              refine q2_iast hs75 o_M_readLiking_135 rfl eh84 bh84 (by decide) ?_
              exact q_vre o_M_readLiking_136 rfl h84
          refine q_icmp_ge o_M_readLiking_95 (fun c72 => ?_) (fun c72 => ?_)
          · refine q_bipush (v := 99) o_M_readLiking_103 (by decide) ?_
            exact hJ _ (Eq.symm (if_pos c72))
          · refine q_bipush (v := 9) o_M_readLiking_98 (by decide) ?_
            refine q_goto o_M_readLiking_100 ?_
            exact hJ _ (Eq.symm (if_neg c72))
        refine q_if_le o_M_readLiking_79 (fun c71 => ?_) (fun c71 => ?_)
        · refine q_iconst (v := 1) o_M_readLiking_86 (by decide) ?_
          exact hJ _ (Eq.symm (if_pos c71))
        · refine q_iconst (v := 0) o_M_readLiking_82 (by decide) ?_
          refine q_goto o_M_readLiking_83 ?_
          exact hJ _ (Eq.symm (if_neg c71))

set_option maxRecDepth 20000 in
theorem v_M_readCustom_0 {G : q_G} {d : Nat} {σ : q_S} {Q : Option Value → q_S → Prop} {p0 : Int32}  (hs : q_Sh σ) (h : (∃ k2, (203 + p0) = nI k2 ∧ k2 < 400 ∧ ((¬ (q_I σ 165 k2) = 4 → q_Call G d 0 0 X_M_takeTold [.ref 159, .int 1, .int 20] (q_setI σ 159 7 ((q_I σ 159 7) + 1)) (q_ri (fun x8 σ6 => q_Call G d 0 0 X_M_toldHere [.ref 159, .int 1, .int 20] σ6 (q_ri (fun x12 σ10 => ((¬ (q_I σ10 159 8) = 0 → (∃ k17, ((376 + (8 * p0)) + (2 * (q_I σ 165 k2))) = nI k17 ∧ k17 < 400 ∧ (∃ k19, (((376 + (8 * p0)) + (2 * (q_I σ 165 k2))) + 1) = nI k19 ∧ k19 < 400 ∧ (∃ k21, (203 + p0) = nI k21 ∧ k21 < 400 ∧ (∃ k23, (203 + p0) = nI k23 ∧ k23 < 400 ∧ Q none (q_setI (q_setI (q_setI (q_setI σ10 159 7 ((q_I σ10 159 7) + (if (q_I σ10 159 8) ≤ 0 then (1 : Int32) else (0 : Int32)))) 165 k17 x8) 165 k19 x12) 165 k23 ((q_I (q_setI (q_setI (q_setI σ10 159 7 ((q_I σ10 159 7) + (if (q_I σ10 159 8) ≤ 0 then (1 : Int32) else (0 : Int32)))) 165 k17 x8) 165 k19 x12) 165 k21) + 1))))))) ∧ ((q_I σ10 159 8) = 0 → ((¬ x8 = x12 → (∃ k29, ((376 + (8 * p0)) + (2 * (q_I σ 165 k2))) = nI k29 ∧ k29 < 400 ∧ (∃ k31, (((376 + (8 * p0)) + (2 * (q_I σ 165 k2))) + 1) = nI k31 ∧ k31 < 400 ∧ (∃ k33, (203 + p0) = nI k33 ∧ k33 < 400 ∧ (∃ k35, (203 + p0) = nI k35 ∧ k35 < 400 ∧ Q none (q_setI (q_setI (q_setI (q_setI σ10 159 7 ((q_I σ10 159 7) + (if (q_I σ10 159 8) ≤ 0 then (1 : Int32) else (0 : Int32)))) 165 k29 x8) 165 k31 x12) 165 k35 ((q_I (q_setI (q_setI (q_setI σ10 159 7 ((q_I σ10 159 7) + (if (q_I σ10 159 8) ≤ 0 then (1 : Int32) else (0 : Int32)))) 165 k29 x8) 165 k31 x12) 165 k33) + 1))))))) ∧ (x8 = x12 → q_Call G d 0 0 X_M_wrong [.ref 159, .int 3] σ10 (q_rv (fun σ38 => (∃ k42, ((376 + (8 * p0)) + (2 * (q_I σ 165 k2))) = nI k42 ∧ k42 < 400 ∧ (∃ k44, (((376 + (8 * p0)) + (2 * (q_I σ 165 k2))) + 1) = nI k44 ∧ k44 < 400 ∧ (∃ k46, (203 + p0) = nI k46 ∧ k46 < 400 ∧ (∃ k48, (203 + p0) = nI k48 ∧ k48 < 400 ∧ Q none (q_setI (q_setI (q_setI (q_setI σ38 159 7 ((q_I σ38 159 7) + (if (q_I σ38 159 8) ≤ 0 then (1 : Int32) else (0 : Int32)))) 165 k42 x8) 165 k44 x12) 165 k48 ((q_I (q_setI (q_setI (q_setI σ38 159 7 ((q_I σ38 159 7) + (if (q_I σ38 159 8) ≤ 0 then (1 : Int32) else (0 : Int32)))) 165 k42 x8) 165 k44 x12) 165 k46) + 1))))))))))))))))) ∧ ((q_I σ 165 k2) = 4 → q_Call G d 0 0 X_M_wrong [.ref 159, .int 5] σ (q_rv (fun σ51 => Q none σ51)))))) : q_At G X_M_readCustom (d + 1) 0 0 0 [some (.ref 159), some (.int p0), none, none, none, none] [] σ Q := by
  refine q_aload_n o_M_readCustom_0 rfl ?_
  refine q2_getR hs o_M_readCustom_1 f_M_103 rfl (fz_159_10 hs) ?_
  refine q_sipush (v := 203) o_M_readCustom_4 (by decide) ?_
  refine q_iload_n o_M_readCustom_7 rfl ?_
  refine q_iadd o_M_readCustom_8 ?_
  obtain ⟨k2, eh1, bh1, h1⟩ := h
  refine q2_iald hs o_M_readCustom_9 rfl eh1 bh1 (by decide) ?_
  refine q2_istn (ls' := [some (.ref 159), some (.int p0), some (.int (q_I σ 165 k2)), none, none, none]) o_M_readCustom_10 (Nat.le_of_ble_eq_true rfl) rfl ?_
  refine q_iload_n o_M_readCustom_11 rfl ?_
  refine q_iconst (v := 4) o_M_readCustom_12 (by decide) ?_
  refine q_icmp_ne o_M_readCustom_13 (fun c3 => ?_) (fun c3 => ?_)
  · have h4 := h1.1 c3
    refine q_aload_n o_M_readCustom_22 rfl ?_
    refine q_dup o_M_readCustom_23 rfl ?_
    refine q2_getI hs o_M_readCustom_24 f_M_185 rfl ?_
    refine q_iconst (v := 1) o_M_readCustom_27 (by decide) ?_
    refine q_iadd o_M_readCustom_28 ?_
    refine q2_putI hs o_M_readCustom_29 fp_M_185 rfl rfl rfl ?_
    refine q_aload_n o_M_readCustom_32 rfl ?_
    refine q_iconst (v := 1) o_M_readCustom_33 (by decide) ?_
    refine q_bipush (v := 20) o_M_readCustom_34 (by decide) ?_
    refine q2_callVi _ (a := 159) (As := [.int 1, .int 20]) (st := []) hs o_M_readCustom_36 k_M_268 rfl rfl (Nat.le_of_ble_eq_true rfl) h4 (fun x8 σ6 hs7 h5 => ?_)
    refine q2_istn (ls' := [some (.ref 159), some (.int p0), some (.int (q_I σ 165 k2)), some (.int x8), none, none]) o_M_readCustom_39 (Nat.le_of_ble_eq_true rfl) rfl ?_
    refine q_aload_n o_M_readCustom_40 rfl ?_
    refine q_iconst (v := 1) o_M_readCustom_41 (by decide) ?_
    refine q_bipush (v := 20) o_M_readCustom_42 (by decide) ?_
    refine q2_callVi _ (a := 159) (As := [.int 1, .int 20]) (st := []) hs7 o_M_readCustom_44 k_M_231 rfl rfl (Nat.le_of_ble_eq_true rfl) h5 (fun x12 σ10 hs11 h9 => ?_)
    refine q2_ist (ls' := [some (.ref 159), some (.int p0), some (.int (q_I σ 165 k2)), some (.int x8), some (.int x12), none]) o_M_readCustom_47 (Nat.le_of_ble_eq_true rfl) rfl ?_
    refine q_aload_n o_M_readCustom_49 rfl ?_
    refine q2_getI hs11 o_M_readCustom_50 f_M_188 rfl ?_
    refine q_if_ne o_M_readCustom_53 (fun c13 => ?_) (fun c13 => ?_)
    · have h14 := h9.1 c13
      refine q_aload_n o_M_readCustom_67 rfl ?_
      refine q_dup o_M_readCustom_68 rfl ?_
      refine q2_getI hs11 o_M_readCustom_69 f_M_185 rfl ?_
      refine q_aload_n o_M_readCustom_72 rfl ?_
      refine q2_getI hs11 o_M_readCustom_73 f_M_188 rfl ?_
      have hJ : ∀ vJ : Int32, vJ = (if (q_I σ10 159 8) ≤ 0 then (1 : Int32) else (0 : Int32)) → q_At G X_M_readCustom (d + 1) 0 0 84 [some (.ref 159), some (.int p0), some (.int (q_I σ 165 k2)), some (.int x8), some (.int x12), none] [.int vJ, .int (q_I σ10 159 7), .ref 159] σ10 Q := by
        intro vJ eJ
        rw [eJ]
        clear eJ vJ
        refine q_iadd o_M_readCustom_84 ?_
        refine q2_putI hs11 o_M_readCustom_85 fp_M_185 rfl rfl rfl ?_
        refine q_sipush (v := 376) o_M_readCustom_88 (by decide) ?_
        refine q_bipush (v := 8) o_M_readCustom_91 (by decide) ?_
        refine q_iload_n o_M_readCustom_93 rfl ?_
        refine q_imul o_M_readCustom_94 ?_
        refine q_iadd o_M_readCustom_95 ?_
        refine q_iconst (v := 2) o_M_readCustom_96 (by decide) ?_
        refine q_iload_n o_M_readCustom_97 rfl ?_
        refine q_imul o_M_readCustom_98 ?_
        refine q_iadd o_M_readCustom_99 ?_
        refine q2_ist (ls' := [some (.ref 159), some (.int p0), some (.int (q_I σ 165 k2)), some (.int x8), some (.int x12), some (.int ((376 + (8 * p0)) + (2 * (q_I σ 165 k2))))]) o_M_readCustom_100 (Nat.le_of_ble_eq_true rfl) rfl ?_
        refine q_aload_n o_M_readCustom_102 rfl ?_
        refine q2_getR hs11 o_M_readCustom_103 f_M_103 rfl (fz_159_10 hs11) ?_
        refine q_iload o_M_readCustom_106 rfl ?_
        refine q_iload_n o_M_readCustom_108 rfl ?_
        obtain ⟨k17, eh16, bh16, h16⟩ := h14
        refine q2_iast hs11 o_M_readCustom_109 rfl eh16 bh16 (by decide) ?_
        refine q_aload_n o_M_readCustom_110 rfl ?_
        refine q2_getR hs11 o_M_readCustom_111 f_M_103 rfl (fz_159_10 hs11) ?_
        refine q_iload o_M_readCustom_114 rfl ?_
        refine q_iconst (v := 1) o_M_readCustom_116 (by decide) ?_
        refine q_iadd o_M_readCustom_117 ?_
        refine q_iload o_M_readCustom_118 rfl ?_
        obtain ⟨k19, eh18, bh18, h18⟩ := h16
        refine q2_iast hs11 o_M_readCustom_120 rfl eh18 bh18 (by decide) ?_
        refine q_aload_n o_M_readCustom_121 rfl ?_
        refine q2_getR hs11 o_M_readCustom_122 f_M_103 rfl (fz_159_10 hs11) ?_
        refine q_sipush (v := 203) o_M_readCustom_125 (by decide) ?_
        refine q_iload_n o_M_readCustom_128 rfl ?_
        refine q_iadd o_M_readCustom_129 ?_
        refine q_dup2 o_M_readCustom_130 rfl rfl ?_
        obtain ⟨k21, eh20, bh20, h20⟩ := h18
        refine q2_iald hs11 o_M_readCustom_131 rfl eh20 bh20 (by decide) ?_
        refine q_iconst (v := 1) o_M_readCustom_132 (by decide) ?_
        refine q_iadd o_M_readCustom_133 ?_
        obtain ⟨k23, eh22, bh22, h22⟩ := h20
        refine q2_iast hs11 o_M_readCustom_134 rfl eh22 bh22 (by decide) ?_
        exact q_vre o_M_readCustom_135 rfl h22
      refine q_if_le o_M_readCustom_76 (fun c15 => ?_) (fun c15 => ?_)
      · refine q_iconst (v := 1) o_M_readCustom_83 (by decide) ?_
        exact hJ _ (Eq.symm (if_pos c15))
      · refine q_iconst (v := 0) o_M_readCustom_79 (by decide) ?_
        refine q_goto o_M_readCustom_80 ?_
        exact hJ _ (Eq.symm (if_neg c15))
    · have h24 := h9.2 c13
      refine q_iload_n o_M_readCustom_56 rfl ?_
      refine q_iload o_M_readCustom_57 rfl ?_
      refine q_icmp_ne o_M_readCustom_59 (fun c25 => ?_) (fun c25 => ?_)
      · have h26 := h24.1 c25
        refine q_aload_n o_M_readCustom_67 rfl ?_
        refine q_dup o_M_readCustom_68 rfl ?_
        refine q2_getI hs11 o_M_readCustom_69 f_M_185 rfl ?_
        refine q_aload_n o_M_readCustom_72 rfl ?_
        refine q2_getI hs11 o_M_readCustom_73 f_M_188 rfl ?_
        have hJ : ∀ vJ : Int32, vJ = (if (q_I σ10 159 8) ≤ 0 then (1 : Int32) else (0 : Int32)) → q_At G X_M_readCustom (d + 1) 0 0 84 [some (.ref 159), some (.int p0), some (.int (q_I σ 165 k2)), some (.int x8), some (.int x12), none] [.int vJ, .int (q_I σ10 159 7), .ref 159] σ10 Q := by
          intro vJ eJ
          rw [eJ]
          clear eJ vJ
          refine q_iadd o_M_readCustom_84 ?_
          refine q2_putI hs11 o_M_readCustom_85 fp_M_185 rfl rfl rfl ?_
          refine q_sipush (v := 376) o_M_readCustom_88 (by decide) ?_
          refine q_bipush (v := 8) o_M_readCustom_91 (by decide) ?_
          refine q_iload_n o_M_readCustom_93 rfl ?_
          refine q_imul o_M_readCustom_94 ?_
          refine q_iadd o_M_readCustom_95 ?_
          refine q_iconst (v := 2) o_M_readCustom_96 (by decide) ?_
          refine q_iload_n o_M_readCustom_97 rfl ?_
          refine q_imul o_M_readCustom_98 ?_
          refine q_iadd o_M_readCustom_99 ?_
          refine q2_ist (ls' := [some (.ref 159), some (.int p0), some (.int (q_I σ 165 k2)), some (.int x8), some (.int x12), some (.int ((376 + (8 * p0)) + (2 * (q_I σ 165 k2))))]) o_M_readCustom_100 (Nat.le_of_ble_eq_true rfl) rfl ?_
          refine q_aload_n o_M_readCustom_102 rfl ?_
          refine q2_getR hs11 o_M_readCustom_103 f_M_103 rfl (fz_159_10 hs11) ?_
          refine q_iload o_M_readCustom_106 rfl ?_
          refine q_iload_n o_M_readCustom_108 rfl ?_
          obtain ⟨k29, eh28, bh28, h28⟩ := h26
          refine q2_iast hs11 o_M_readCustom_109 rfl eh28 bh28 (by decide) ?_
          refine q_aload_n o_M_readCustom_110 rfl ?_
          refine q2_getR hs11 o_M_readCustom_111 f_M_103 rfl (fz_159_10 hs11) ?_
          refine q_iload o_M_readCustom_114 rfl ?_
          refine q_iconst (v := 1) o_M_readCustom_116 (by decide) ?_
          refine q_iadd o_M_readCustom_117 ?_
          refine q_iload o_M_readCustom_118 rfl ?_
          obtain ⟨k31, eh30, bh30, h30⟩ := h28
          refine q2_iast hs11 o_M_readCustom_120 rfl eh30 bh30 (by decide) ?_
          refine q_aload_n o_M_readCustom_121 rfl ?_
          refine q2_getR hs11 o_M_readCustom_122 f_M_103 rfl (fz_159_10 hs11) ?_
          refine q_sipush (v := 203) o_M_readCustom_125 (by decide) ?_
          refine q_iload_n o_M_readCustom_128 rfl ?_
          refine q_iadd o_M_readCustom_129 ?_
          refine q_dup2 o_M_readCustom_130 rfl rfl ?_
          obtain ⟨k33, eh32, bh32, h32⟩ := h30
          refine q2_iald hs11 o_M_readCustom_131 rfl eh32 bh32 (by decide) ?_
          refine q_iconst (v := 1) o_M_readCustom_132 (by decide) ?_
          refine q_iadd o_M_readCustom_133 ?_
          obtain ⟨k35, eh34, bh34, h34⟩ := h32
          refine q2_iast hs11 o_M_readCustom_134 rfl eh34 bh34 (by decide) ?_
          exact q_vre o_M_readCustom_135 rfl h34
        refine q_if_le o_M_readCustom_76 (fun c27 => ?_) (fun c27 => ?_)
        · refine q_iconst (v := 1) o_M_readCustom_83 (by decide) ?_
          exact hJ _ (Eq.symm (if_pos c27))
        · refine q_iconst (v := 0) o_M_readCustom_79 (by decide) ?_
          refine q_goto o_M_readCustom_80 ?_
          exact hJ _ (Eq.symm (if_neg c27))
      · have h36 := h24.2 c25
        refine q_aload_n o_M_readCustom_62 rfl ?_
        refine q_iconst (v := 3) o_M_readCustom_63 (by decide) ?_
        refine q2_callVv _ (a := 159) (As := [.int 3]) (st := []) hs11 o_M_readCustom_64 k_M_194 rfl rfl (Nat.le_of_ble_eq_true rfl) h36 (fun σ38 hs39 h37 => ?_)
        refine q_aload_n o_M_readCustom_67 rfl ?_
        refine q_dup o_M_readCustom_68 rfl ?_
        refine q2_getI hs39 o_M_readCustom_69 f_M_185 rfl ?_
        refine q_aload_n o_M_readCustom_72 rfl ?_
        refine q2_getI hs39 o_M_readCustom_73 f_M_188 rfl ?_
        have hJ : ∀ vJ : Int32, vJ = (if (q_I σ38 159 8) ≤ 0 then (1 : Int32) else (0 : Int32)) → q_At G X_M_readCustom (d + 1) 0 0 84 [some (.ref 159), some (.int p0), some (.int (q_I σ 165 k2)), some (.int x8), some (.int x12), none] [.int vJ, .int (q_I σ38 159 7), .ref 159] σ38 Q := by
          intro vJ eJ
          rw [eJ]
          clear eJ vJ
          refine q_iadd o_M_readCustom_84 ?_
          refine q2_putI hs39 o_M_readCustom_85 fp_M_185 rfl rfl rfl ?_
          refine q_sipush (v := 376) o_M_readCustom_88 (by decide) ?_
          refine q_bipush (v := 8) o_M_readCustom_91 (by decide) ?_
          refine q_iload_n o_M_readCustom_93 rfl ?_
          refine q_imul o_M_readCustom_94 ?_
          refine q_iadd o_M_readCustom_95 ?_
          refine q_iconst (v := 2) o_M_readCustom_96 (by decide) ?_
          refine q_iload_n o_M_readCustom_97 rfl ?_
          refine q_imul o_M_readCustom_98 ?_
          refine q_iadd o_M_readCustom_99 ?_
          refine q2_ist (ls' := [some (.ref 159), some (.int p0), some (.int (q_I σ 165 k2)), some (.int x8), some (.int x12), some (.int ((376 + (8 * p0)) + (2 * (q_I σ 165 k2))))]) o_M_readCustom_100 (Nat.le_of_ble_eq_true rfl) rfl ?_
          refine q_aload_n o_M_readCustom_102 rfl ?_
          refine q2_getR hs39 o_M_readCustom_103 f_M_103 rfl (fz_159_10 hs39) ?_
          refine q_iload o_M_readCustom_106 rfl ?_
          refine q_iload_n o_M_readCustom_108 rfl ?_
          obtain ⟨k42, eh41, bh41, h41⟩ := h37
          refine q2_iast hs39 o_M_readCustom_109 rfl eh41 bh41 (by decide) ?_
          refine q_aload_n o_M_readCustom_110 rfl ?_
          refine q2_getR hs39 o_M_readCustom_111 f_M_103 rfl (fz_159_10 hs39) ?_
          refine q_iload o_M_readCustom_114 rfl ?_
          refine q_iconst (v := 1) o_M_readCustom_116 (by decide) ?_
          refine q_iadd o_M_readCustom_117 ?_
          refine q_iload o_M_readCustom_118 rfl ?_
          obtain ⟨k44, eh43, bh43, h43⟩ := h41
          refine q2_iast hs39 o_M_readCustom_120 rfl eh43 bh43 (by decide) ?_
          refine q_aload_n o_M_readCustom_121 rfl ?_
          refine q2_getR hs39 o_M_readCustom_122 f_M_103 rfl (fz_159_10 hs39) ?_
          refine q_sipush (v := 203) o_M_readCustom_125 (by decide) ?_
          refine q_iload_n o_M_readCustom_128 rfl ?_
          refine q_iadd o_M_readCustom_129 ?_
          refine q_dup2 o_M_readCustom_130 rfl rfl ?_
          obtain ⟨k46, eh45, bh45, h45⟩ := h43
          refine q2_iald hs39 o_M_readCustom_131 rfl eh45 bh45 (by decide) ?_
          refine q_iconst (v := 1) o_M_readCustom_132 (by decide) ?_
          refine q_iadd o_M_readCustom_133 ?_
          obtain ⟨k48, eh47, bh47, h47⟩ := h45
          refine q2_iast hs39 o_M_readCustom_134 rfl eh47 bh47 (by decide) ?_
          exact q_vre o_M_readCustom_135 rfl h47
        refine q_if_le o_M_readCustom_76 (fun c40 => ?_) (fun c40 => ?_)
        · refine q_iconst (v := 1) o_M_readCustom_83 (by decide) ?_
          exact hJ _ (Eq.symm (if_pos c40))
        · refine q_iconst (v := 0) o_M_readCustom_79 (by decide) ?_
          refine q_goto o_M_readCustom_80 ?_
          exact hJ _ (Eq.symm (if_neg c40))
  · have h49 := h1.2 c3
    refine q_aload_n o_M_readCustom_16 rfl ?_
    refine q_iconst (v := 5) o_M_readCustom_17 (by decide) ?_
    refine q2_callVv _ (a := 159) (As := [.int 5]) (st := []) hs o_M_readCustom_18 k_M_194 rfl rfl (Nat.le_of_ble_eq_true rfl) h49 (fun σ51 hs52 h50 => ?_)
    exact q_vre o_M_readCustom_21 rfl h50

set_option maxRecDepth 20000 in
theorem v_M_readLaw_0 {G : q_G} {d : Nat} {σ : q_S} {Q : Option Value → q_S → Prop}   (hs : q_Sh σ) (h : q_Call G d 0 0 X_M_wordHere [.ref 159, .int 11, .int 3] σ (q_ri (fun x4 σ2 => ((0 ≤ x4 → (∃ k8, (205 + x4) = nI k8 ∧ k8 < 400 ∧ (((q_I σ2 165 k8) < 0 → (((q_I σ2 159 8) ≤ 0 → (∃ k14, (205 + x4) = nI k14 ∧ k14 < 400 ∧ q_Call G d 0 0 X_M_all [.ref 159, .int 0] (q_setI (q_setI (q_setI σ2 159 7 ((q_I σ2 159 7) + 1)) 165 k14 (q_I (q_setI σ2 159 7 ((q_I σ2 159 7) + 1)) 159 13)) 159 20 (if x4 = 0 then (7 : Int32) else (if x4 = 1 then (56 : Int32) else (200 : Int32)))) (q_rv (fun σ18 => q_Call G d 0 0 X_M_emit [.ref 159, .int 0, .int 0] σ18 (q_rv (fun σ21 => Q none σ21)))))) ∧ (¬ (q_I σ2 159 8) ≤ 0 → Q none σ2))) ∧ (¬ (q_I σ2 165 k8) < 0 → q_Call G d 0 0 X_M_wrong [.ref 159, .int 3] σ2 (q_rv (fun σ26 => (((q_I σ26 159 8) ≤ 0 → (∃ k31, (205 + x4) = nI k31 ∧ k31 < 400 ∧ q_Call G d 0 0 X_M_all [.ref 159, .int 0] (q_setI (q_setI (q_setI σ26 159 7 ((q_I σ26 159 7) + 1)) 165 k31 (q_I (q_setI σ26 159 7 ((q_I σ26 159 7) + 1)) 159 13)) 159 20 (if x4 = 0 then (7 : Int32) else (if x4 = 1 then (56 : Int32) else (200 : Int32)))) (q_rv (fun σ35 => q_Call G d 0 0 X_M_emit [.ref 159, .int 0, .int 0] σ35 (q_rv (fun σ38 => Q none σ38)))))) ∧ (¬ (q_I σ26 159 8) ≤ 0 → Q none σ26)))))))) ∧ (¬ 0 ≤ x4 → q_Call G d 0 0 X_M_wrong [.ref 159, .int 1] σ2 (q_rv (fun σ43 => (((q_I σ43 159 8) ≤ 0 → (∃ k48, (205 + x4) = nI k48 ∧ k48 < 400 ∧ q_Call G d 0 0 X_M_all [.ref 159, .int 0] (q_setI (q_setI (q_setI σ43 159 7 ((q_I σ43 159 7) + 1)) 165 k48 (q_I (q_setI σ43 159 7 ((q_I σ43 159 7) + 1)) 159 13)) 159 20 (if x4 = 0 then (7 : Int32) else (if x4 = 1 then (56 : Int32) else (200 : Int32)))) (q_rv (fun σ52 => q_Call G d 0 0 X_M_emit [.ref 159, .int 0, .int 0] σ52 (q_rv (fun σ55 => Q none σ55)))))) ∧ (¬ (q_I σ43 159 8) ≤ 0 → Q none σ43))))))))) : q_At G X_M_readLaw (d + 1) 0 0 0 [some (.ref 159), none] [] σ Q := by
  refine q_aload_n o_M_readLaw_0 rfl ?_
  refine q_bipush (v := 11) o_M_readLaw_1 (by decide) ?_
  refine q_iconst (v := 3) o_M_readLaw_3 (by decide) ?_
  refine q2_callVi _ (a := 159) (As := [.int 11, .int 3]) (st := []) hs o_M_readLaw_4 k_M_210 rfl rfl (Nat.le_of_ble_eq_true rfl) h (fun x4 σ2 hs3 h1 => ?_)
  refine q2_istn (ls' := [some (.ref 159), some (.int x4)]) o_M_readLaw_7 (Nat.le_of_ble_eq_true rfl) rfl ?_
  refine q_iload_n o_M_readLaw_8 rfl ?_
  refine q_if_ge o_M_readLaw_9 (fun c5 => ?_) (fun c5 => ?_)
  · have h6 := h1.1 c5
    refine q_aload_n o_M_readLaw_20 rfl ?_
    refine q2_getR hs3 o_M_readLaw_21 f_M_103 rfl (fz_159_10 hs3) ?_
    refine q_sipush (v := 205) o_M_readLaw_24 (by decide) ?_
    refine q_iload_n o_M_readLaw_27 rfl ?_
    refine q_iadd o_M_readLaw_28 ?_
    obtain ⟨k8, eh7, bh7, h7⟩ := h6
    refine q2_iald hs3 o_M_readLaw_29 rfl eh7 bh7 (by decide) ?_
    refine q_if_lt o_M_readLaw_30 (fun c9 => ?_) (fun c9 => ?_)
    · have h10 := h7.1 c9
      refine q_aload_n o_M_readLaw_38 rfl ?_
      refine q2_getI hs3 o_M_readLaw_39 f_M_188 rfl ?_
      refine q_if_le o_M_readLaw_42 (fun c11 => ?_) (fun c11 => ?_)
      · have h12 := h10.1 c11
        refine q_aload_n o_M_readLaw_46 rfl ?_
        refine q_dup o_M_readLaw_47 rfl ?_
        refine q2_getI hs3 o_M_readLaw_48 f_M_185 rfl ?_
        refine q_iconst (v := 1) o_M_readLaw_51 (by decide) ?_
        refine q_iadd o_M_readLaw_52 ?_
        refine q2_putI hs3 o_M_readLaw_53 fp_M_185 rfl rfl rfl ?_
        refine q_aload_n o_M_readLaw_56 rfl ?_
        refine q2_getR hs3 o_M_readLaw_57 f_M_103 rfl (fz_159_10 hs3) ?_
        refine q_sipush (v := 205) o_M_readLaw_60 (by decide) ?_
        refine q_iload_n o_M_readLaw_63 rfl ?_
        refine q_iadd o_M_readLaw_64 ?_
        refine q_aload_n o_M_readLaw_65 rfl ?_
        refine q2_getI hs3 o_M_readLaw_66 f_M_238 rfl ?_
        obtain ⟨k14, eh13, bh13, h13⟩ := h12
        refine q2_iast hs3 o_M_readLaw_69 rfl eh13 bh13 (by decide) ?_
        refine q_aload_n o_M_readLaw_70 rfl ?_
        refine q_iload_n o_M_readLaw_71 rfl ?_
        have hJ : ∀ vJ : Int32, vJ = (if x4 = 0 then (7 : Int32) else (if x4 = 1 then (56 : Int32) else (200 : Int32))) → q_At G X_M_readLaw (d + 1) 0 0 93 [some (.ref 159), some (.int x4)] [.int vJ, .ref 159] (q_setI (q_setI σ2 159 7 ((q_I σ2 159 7) + 1)) 165 k14 (q_I (q_setI σ2 159 7 ((q_I σ2 159 7) + 1)) 159 13)) Q := by
          intro vJ eJ
          rw [eJ]
          clear eJ vJ
          refine q2_putI hs3 o_M_readLaw_93 fp_M_278 rfl rfl rfl ?_
          refine q_aload_n o_M_readLaw_96 rfl ?_
          refine q_iconst (v := 0) o_M_readLaw_97 (by decide) ?_
          refine q2_callVv _ (a := 159) (As := [.int 0]) (st := []) hs3 o_M_readLaw_98 k_M_281 rfl rfl (Nat.le_of_ble_eq_true rfl) h13 (fun σ18 hs19 h17 => ?_)
          refine q_aload_n o_M_readLaw_101 rfl ?_
          refine q_iconst (v := 0) o_M_readLaw_102 (by decide) ?_
          refine q_iconst (v := 0) o_M_readLaw_103 (by decide) ?_
          refine q2_callVv _ (a := 159) (As := [.int 0, .int 0]) (st := []) hs19 o_M_readLaw_104 k_M_284 rfl rfl (Nat.le_of_ble_eq_true rfl) h17 (fun σ21 hs22 h20 => ?_)
          exact q_vre o_M_readLaw_107 rfl h20
        refine q_if_ne o_M_readLaw_72 (fun c15 => ?_) (fun c15 => ?_)
        · refine q_iload_n o_M_readLaw_80 rfl ?_
          refine q_iconst (v := 1) o_M_readLaw_81 (by decide) ?_
          refine q_icmp_ne o_M_readLaw_82 (fun c16 => ?_) (fun c16 => ?_)
          · refine q_sipush (v := 200) o_M_readLaw_90 (by decide) ?_
            exact hJ _ (Eq.symm ((if_neg c15).trans (if_neg c16)))
          · refine q_bipush (v := 56) o_M_readLaw_85 (by decide) ?_
            refine q_goto o_M_readLaw_87 ?_
            exact hJ _ (Eq.symm ((if_neg c15).trans (if_pos c16)))
        · refine q_bipush (v := 7) o_M_readLaw_75 (by decide) ?_
          refine q_goto o_M_readLaw_77 ?_
          exact hJ _ (Eq.symm (if_pos c15))
      · have h23 := h10.2 c11
        exact q_vre o_M_readLaw_45 rfl h23
    · have h24 := h7.2 c9
      refine q_aload_n o_M_readLaw_33 rfl ?_
      refine q_iconst (v := 3) o_M_readLaw_34 (by decide) ?_
      refine q2_callVv _ (a := 159) (As := [.int 3]) (st := []) hs3 o_M_readLaw_35 k_M_194 rfl rfl (Nat.le_of_ble_eq_true rfl) h24 (fun σ26 hs27 h25 => ?_)
      refine q_aload_n o_M_readLaw_38 rfl ?_
      refine q2_getI hs27 o_M_readLaw_39 f_M_188 rfl ?_
      refine q_if_le o_M_readLaw_42 (fun c28 => ?_) (fun c28 => ?_)
      · have h29 := h25.1 c28
        refine q_aload_n o_M_readLaw_46 rfl ?_
        refine q_dup o_M_readLaw_47 rfl ?_
        refine q2_getI hs27 o_M_readLaw_48 f_M_185 rfl ?_
        refine q_iconst (v := 1) o_M_readLaw_51 (by decide) ?_
        refine q_iadd o_M_readLaw_52 ?_
        refine q2_putI hs27 o_M_readLaw_53 fp_M_185 rfl rfl rfl ?_
        refine q_aload_n o_M_readLaw_56 rfl ?_
        refine q2_getR hs27 o_M_readLaw_57 f_M_103 rfl (fz_159_10 hs27) ?_
        refine q_sipush (v := 205) o_M_readLaw_60 (by decide) ?_
        refine q_iload_n o_M_readLaw_63 rfl ?_
        refine q_iadd o_M_readLaw_64 ?_
        refine q_aload_n o_M_readLaw_65 rfl ?_
        refine q2_getI hs27 o_M_readLaw_66 f_M_238 rfl ?_
        obtain ⟨k31, eh30, bh30, h30⟩ := h29
        refine q2_iast hs27 o_M_readLaw_69 rfl eh30 bh30 (by decide) ?_
        refine q_aload_n o_M_readLaw_70 rfl ?_
        refine q_iload_n o_M_readLaw_71 rfl ?_
        have hJ : ∀ vJ : Int32, vJ = (if x4 = 0 then (7 : Int32) else (if x4 = 1 then (56 : Int32) else (200 : Int32))) → q_At G X_M_readLaw (d + 1) 0 0 93 [some (.ref 159), some (.int x4)] [.int vJ, .ref 159] (q_setI (q_setI σ26 159 7 ((q_I σ26 159 7) + 1)) 165 k31 (q_I (q_setI σ26 159 7 ((q_I σ26 159 7) + 1)) 159 13)) Q := by
          intro vJ eJ
          rw [eJ]
          clear eJ vJ
          refine q2_putI hs27 o_M_readLaw_93 fp_M_278 rfl rfl rfl ?_
          refine q_aload_n o_M_readLaw_96 rfl ?_
          refine q_iconst (v := 0) o_M_readLaw_97 (by decide) ?_
          refine q2_callVv _ (a := 159) (As := [.int 0]) (st := []) hs27 o_M_readLaw_98 k_M_281 rfl rfl (Nat.le_of_ble_eq_true rfl) h30 (fun σ35 hs36 h34 => ?_)
          refine q_aload_n o_M_readLaw_101 rfl ?_
          refine q_iconst (v := 0) o_M_readLaw_102 (by decide) ?_
          refine q_iconst (v := 0) o_M_readLaw_103 (by decide) ?_
          refine q2_callVv _ (a := 159) (As := [.int 0, .int 0]) (st := []) hs36 o_M_readLaw_104 k_M_284 rfl rfl (Nat.le_of_ble_eq_true rfl) h34 (fun σ38 hs39 h37 => ?_)
          exact q_vre o_M_readLaw_107 rfl h37
        refine q_if_ne o_M_readLaw_72 (fun c32 => ?_) (fun c32 => ?_)
        · refine q_iload_n o_M_readLaw_80 rfl ?_
          refine q_iconst (v := 1) o_M_readLaw_81 (by decide) ?_
          refine q_icmp_ne o_M_readLaw_82 (fun c33 => ?_) (fun c33 => ?_)
          · refine q_sipush (v := 200) o_M_readLaw_90 (by decide) ?_
            exact hJ _ (Eq.symm ((if_neg c32).trans (if_neg c33)))
          · refine q_bipush (v := 56) o_M_readLaw_85 (by decide) ?_
            refine q_goto o_M_readLaw_87 ?_
            exact hJ _ (Eq.symm ((if_neg c32).trans (if_pos c33)))
        · refine q_bipush (v := 7) o_M_readLaw_75 (by decide) ?_
          refine q_goto o_M_readLaw_77 ?_
          exact hJ _ (Eq.symm (if_pos c32))
      · have h40 := h25.2 c28
        exact q_vre o_M_readLaw_45 rfl h40
  · have h41 := h1.2 c5
    refine q_aload_n o_M_readLaw_12 rfl ?_
    refine q_iconst (v := 1) o_M_readLaw_13 (by decide) ?_
    refine q2_callVv _ (a := 159) (As := [.int 1]) (st := []) hs3 o_M_readLaw_14 k_M_194 rfl rfl (Nat.le_of_ble_eq_true rfl) h41 (fun σ43 hs44 h42 => ?_)
    refine q_goto o_M_readLaw_17 ?_
    refine q_aload_n o_M_readLaw_38 rfl ?_
    refine q2_getI hs44 o_M_readLaw_39 f_M_188 rfl ?_
    refine q_if_le o_M_readLaw_42 (fun c45 => ?_) (fun c45 => ?_)
    · have h46 := h42.1 c45
      refine q_aload_n o_M_readLaw_46 rfl ?_
      refine q_dup o_M_readLaw_47 rfl ?_
      refine q2_getI hs44 o_M_readLaw_48 f_M_185 rfl ?_
      refine q_iconst (v := 1) o_M_readLaw_51 (by decide) ?_
      refine q_iadd o_M_readLaw_52 ?_
      refine q2_putI hs44 o_M_readLaw_53 fp_M_185 rfl rfl rfl ?_
      refine q_aload_n o_M_readLaw_56 rfl ?_
      refine q2_getR hs44 o_M_readLaw_57 f_M_103 rfl (fz_159_10 hs44) ?_
      refine q_sipush (v := 205) o_M_readLaw_60 (by decide) ?_
      refine q_iload_n o_M_readLaw_63 rfl ?_
      refine q_iadd o_M_readLaw_64 ?_
      refine q_aload_n o_M_readLaw_65 rfl ?_
      refine q2_getI hs44 o_M_readLaw_66 f_M_238 rfl ?_
      obtain ⟨k48, eh47, bh47, h47⟩ := h46
      refine q2_iast hs44 o_M_readLaw_69 rfl eh47 bh47 (by decide) ?_
      refine q_aload_n o_M_readLaw_70 rfl ?_
      refine q_iload_n o_M_readLaw_71 rfl ?_
      have hJ : ∀ vJ : Int32, vJ = (if x4 = 0 then (7 : Int32) else (if x4 = 1 then (56 : Int32) else (200 : Int32))) → q_At G X_M_readLaw (d + 1) 0 0 93 [some (.ref 159), some (.int x4)] [.int vJ, .ref 159] (q_setI (q_setI σ43 159 7 ((q_I σ43 159 7) + 1)) 165 k48 (q_I (q_setI σ43 159 7 ((q_I σ43 159 7) + 1)) 159 13)) Q := by
        intro vJ eJ
        rw [eJ]
        clear eJ vJ
        refine q2_putI hs44 o_M_readLaw_93 fp_M_278 rfl rfl rfl ?_
        refine q_aload_n o_M_readLaw_96 rfl ?_
        refine q_iconst (v := 0) o_M_readLaw_97 (by decide) ?_
        refine q2_callVv _ (a := 159) (As := [.int 0]) (st := []) hs44 o_M_readLaw_98 k_M_281 rfl rfl (Nat.le_of_ble_eq_true rfl) h47 (fun σ52 hs53 h51 => ?_)
        refine q_aload_n o_M_readLaw_101 rfl ?_
        refine q_iconst (v := 0) o_M_readLaw_102 (by decide) ?_
        refine q_iconst (v := 0) o_M_readLaw_103 (by decide) ?_
        refine q2_callVv _ (a := 159) (As := [.int 0, .int 0]) (st := []) hs53 o_M_readLaw_104 k_M_284 rfl rfl (Nat.le_of_ble_eq_true rfl) h51 (fun σ55 hs56 h54 => ?_)
        exact q_vre o_M_readLaw_107 rfl h54
      refine q_if_ne o_M_readLaw_72 (fun c49 => ?_) (fun c49 => ?_)
      · refine q_iload_n o_M_readLaw_80 rfl ?_
        refine q_iconst (v := 1) o_M_readLaw_81 (by decide) ?_
        refine q_icmp_ne o_M_readLaw_82 (fun c50 => ?_) (fun c50 => ?_)
        · refine q_sipush (v := 200) o_M_readLaw_90 (by decide) ?_
          exact hJ _ (Eq.symm ((if_neg c49).trans (if_neg c50)))
        · refine q_bipush (v := 56) o_M_readLaw_85 (by decide) ?_
          refine q_goto o_M_readLaw_87 ?_
          exact hJ _ (Eq.symm ((if_neg c49).trans (if_pos c50)))
      · refine q_bipush (v := 7) o_M_readLaw_75 (by decide) ?_
        refine q_goto o_M_readLaw_77 ?_
        exact hJ _ (Eq.symm (if_pos c49))
    · have h57 := h42.2 c45
      exact q_vre o_M_readLaw_45 rfl h57

set_option maxRecDepth 20000 in
theorem v_M_days_0 {G : q_G} {d : Nat} {σ : q_S} {Q : Option Value → q_S → Prop}   (hs : q_Sh σ) (h : q_Call G d 0 0 X_M_cutAll [.ref 159] (q_setI σ 159 0 0) (q_rv (fun σ2 => q_At G X_M_days (d + 1) 0 0 11 [some (.ref 159), some (.int 0), none] [] σ2 Q))) : q_At G X_M_days (d + 1) 0 0 0 [some (.ref 159), none, none] [] σ Q := by
  refine q_aload_n o_M_days_0 rfl ?_
  refine q_iconst (v := 0) o_M_days_1 (by decide) ?_
  refine q2_putI hs o_M_days_2 fp_M_1 rfl rfl rfl ?_
  refine q_aload_n o_M_days_5 rfl ?_
  refine q2_callVv _ (a := 159) (As := []) (st := []) hs o_M_days_6 k_M_235 rfl rfl (Nat.le_of_ble_eq_true rfl) h (fun σ2 hs3 h1 => ?_)
  refine q_iconst (v := 0) o_M_days_9 (by decide) ?_
  refine q2_istn (ls' := [some (.ref 159), some (.int 0), none]) o_M_days_10 (Nat.le_of_ble_eq_true rfl) rfl ?_
  exact h1

set_option maxRecDepth 20000 in
theorem v_M_days_11 {G : q_G} {d : Nat} {σ : q_S} {Q : Option Value → q_S → Prop} {l1 : Int32}  (hs : q_Sh σ) (h : ((¬ (q_I σ 159 8) = 0 → (((q_I σ 159 8) ≤ 0 → q_At G X_M_days (d + 1) 0 0 130 [some (.ref 159), some (.int l1), some (.int 0)] [] (q_setI σ 172 0 l1) Q) ∧ (¬ (q_I σ 159 8) ≤ 0 → Q (some (.int (q_I σ 159 8))) σ))) ∧ ((q_I σ 159 8) = 0 → (∃ k10, (q_I σ 159 7) = nI k10 ∧ k10 < 1002 ∧ (((q_I σ 161 k10) = 0 → (((q_I σ 159 8) ≤ 0 → q_At G X_M_days (d + 1) 0 0 130 [some (.ref 159), some (.int l1), some (.int 0)] [] (q_setI σ 172 0 l1) Q) ∧ (¬ (q_I σ 159 8) ≤ 0 → Q (some (.int (q_I σ 159 8))) σ))) ∧ (¬ (q_I σ 161 k10) = 0 → q_Call G d 0 0 X_M_wordHere [.ref 159, .int 14, .int 4] σ (q_ri (fun x22 σ20 => ((0 ≤ x22 → ((¬ l1 = 24 → (∃ k28, (110 + (4 * l1)) = nI k28 ∧ k28 < 210 ∧ q_Call G d 0 0 X_M_readDay [.ref 159, .int x22, .int (111 + (4 * l1))] (q_setI (q_setI σ20 159 7 ((q_I σ20 159 7) + 1)) 172 k28 x22) (q_rv (fun σ30 => q_Call G d 0 0 X_M_takeSign [.ref 159, .int 59] σ30 (q_rv (fun σ33 => q_At G X_M_days (d + 1) 0 0 11 [some (.ref 159), some (.int (l1 + 1)), none] [] σ33 Q)))))) ∧ (l1 = 24 → q_Call G d 0 0 X_M_wrong [.ref 159, .int 5] σ20 (q_rv (fun σ37 => q_Call G d 0 0 X_M_takeSign [.ref 159, .int 59] σ37 (q_rv (fun σ40 => q_At G X_M_days (d + 1) 0 0 11 [some (.ref 159), some (.int l1), none] [] σ40 Q))))))) ∧ (¬ 0 ≤ x22 → q_Call G d 0 0 X_M_wrong [.ref 159, .int 1] σ20 (q_rv (fun σ44 => q_Call G d 0 0 X_M_takeSign [.ref 159, .int 59] σ44 (q_rv (fun σ47 => q_At G X_M_days (d + 1) 0 0 11 [some (.ref 159), some (.int l1), none] [] σ47 Q)))))))))))))) : q_At G X_M_days (d + 1) 0 0 11 [some (.ref 159), some (.int l1), none] [] σ Q := by
  refine q_aload_n o_M_days_11 rfl ?_
  refine q2_getI hs o_M_days_12 f_M_188 rfl ?_
  refine q_if_ne o_M_days_15 (fun c1 => ?_) (fun c1 => ?_)
  · have h2 := h.1 c1
    refine q_aload_n o_M_days_109 rfl ?_
    refine q2_getI hs o_M_days_110 f_M_188 rfl ?_
    refine q_if_le o_M_days_113 (fun c3 => ?_) (fun c3 => ?_)
    · have h4 := h2.1 c3
      refine q_aload_n o_M_days_121 rfl ?_
      refine q2_getR hs o_M_days_122 f_M_124 rfl (fz_159_21 hs) ?_
      refine q_iconst (v := 0) o_M_days_125 (by decide) ?_
      refine q_iload_n o_M_days_126 rfl ?_
      refine q2_iast (i := 0) hs o_M_days_127 rfl rfl (by decide) (by decide) ?_
      refine q_iconst (v := 0) o_M_days_128 (by decide) ?_
      refine q2_istn (ls' := [some (.ref 159), some (.int l1), some (.int 0)]) o_M_days_129 (Nat.le_of_ble_eq_true rfl) rfl ?_
      exact h4
    · have h7 := h2.2 c3
      refine q_aload_n o_M_days_116 rfl ?_
      refine q2_getI hs o_M_days_117 f_M_188 rfl ?_
      exact q_ire o_M_days_120 rfl h7
  · have h8 := h.2 c1
    refine q_aload_n o_M_days_18 rfl ?_
    refine q2_getR hs o_M_days_19 f_M_24 rfl (fz_159_4 hs) ?_
    refine q_aload_n o_M_days_22 rfl ?_
    refine q2_getI hs o_M_days_23 f_M_185 rfl ?_
    obtain ⟨k10, eh9, bh9, h9⟩ := h8
    refine q2_iald hs o_M_days_26 rfl eh9 bh9 (by decide) ?_
    refine q_if_eq o_M_days_27 (fun c11 => ?_) (fun c11 => ?_)
    · have h12 := h9.1 c11
      refine q_aload_n o_M_days_109 rfl ?_
      refine q2_getI hs o_M_days_110 f_M_188 rfl ?_
      refine q_if_le o_M_days_113 (fun c13 => ?_) (fun c13 => ?_)
      · have h14 := h12.1 c13
        refine q_aload_n o_M_days_121 rfl ?_
        refine q2_getR hs o_M_days_122 f_M_124 rfl (fz_159_21 hs) ?_
        refine q_iconst (v := 0) o_M_days_125 (by decide) ?_
        refine q_iload_n o_M_days_126 rfl ?_
        refine q2_iast (i := 0) hs o_M_days_127 rfl rfl (by decide) (by decide) ?_
        refine q_iconst (v := 0) o_M_days_128 (by decide) ?_
        refine q2_istn (ls' := [some (.ref 159), some (.int l1), some (.int 0)]) o_M_days_129 (Nat.le_of_ble_eq_true rfl) rfl ?_
        exact h14
      · have h17 := h12.2 c13
        refine q_aload_n o_M_days_116 rfl ?_
        refine q2_getI hs o_M_days_117 f_M_188 rfl ?_
        exact q_ire o_M_days_120 rfl h17
    · have h18 := h9.2 c11
      refine q_aload_n o_M_days_30 rfl ?_
      refine q_bipush (v := 14) o_M_days_31 (by decide) ?_
      refine q_iconst (v := 4) o_M_days_33 (by decide) ?_
      refine q2_callVi _ (a := 159) (As := [.int 14, .int 4]) (st := []) hs o_M_days_34 k_M_210 rfl rfl (Nat.le_of_ble_eq_true rfl) h18 (fun x22 σ20 hs21 h19 => ?_)
      refine q2_istn (ls' := [some (.ref 159), some (.int l1), some (.int x22)]) o_M_days_37 (Nat.le_of_ble_eq_true rfl) rfl ?_
      refine q_iload_n o_M_days_38 rfl ?_
      refine q_if_ge o_M_days_39 (fun c23 => ?_) (fun c23 => ?_)
      · have h24 := h19.1 c23
        refine q_iload_n o_M_days_50 rfl ?_
        refine q_bipush (v := 24) o_M_days_51 (by decide) ?_
        refine q_icmp_ne o_M_days_53 (fun c25 => ?_) (fun c25 => ?_)
        · have h26 := h24.1 c25
          refine q_aload_n o_M_days_64 rfl ?_
          refine q_dup o_M_days_65 rfl ?_
          refine q2_getI hs21 o_M_days_66 f_M_185 rfl ?_
          refine q_iconst (v := 1) o_M_days_69 (by decide) ?_
          refine q_iadd o_M_days_70 ?_
          refine q2_putI hs21 o_M_days_71 fp_M_185 rfl rfl rfl ?_
          refine q_aload_n o_M_days_74 rfl ?_
          refine q2_getR hs21 o_M_days_75 f_M_124 rfl (fz_159_21 hs21) ?_
          refine q_bipush (v := 110) o_M_days_78 (by decide) ?_
          refine q_iconst (v := 4) o_M_days_80 (by decide) ?_
          refine q_iload_n o_M_days_81 rfl ?_
          refine q_imul o_M_days_82 ?_
          refine q_iadd o_M_days_83 ?_
          refine q_iload_n o_M_days_84 rfl ?_
          obtain ⟨k28, eh27, bh27, h27⟩ := h26
          refine q2_iast hs21 o_M_days_85 rfl eh27 bh27 (by decide) ?_
          refine q_aload_n o_M_days_86 rfl ?_
          refine q_iload_n o_M_days_87 rfl ?_
          refine q_bipush (v := 111) o_M_days_88 (by decide) ?_
          refine q_iconst (v := 4) o_M_days_90 (by decide) ?_
          refine q_iload_n o_M_days_91 rfl ?_
          refine q_imul o_M_days_92 ?_
          refine q_iadd o_M_days_93 ?_
          refine q2_callVv _ (a := 159) (As := [.int x22, .int (111 + (4 * l1))]) (st := []) hs21 o_M_days_94 k_M_288 rfl rfl (Nat.le_of_ble_eq_true rfl) h27 (fun σ30 hs31 h29 => ?_)
          refine q2_inc (v := (l1 + 1)) (ls' := [some (.ref 159), some (.int (l1 + 1)), some (.int x22)]) o_M_days_97 rfl rfl (Nat.le_of_ble_eq_true rfl) rfl ?_
          refine q_aload_n o_M_days_100 rfl ?_
          refine q_bipush (v := 59) o_M_days_101 (by decide) ?_
          refine q2_callVv _ (a := 159) (As := [.int 59]) (st := []) hs31 o_M_days_103 k_M_244 rfl rfl (Nat.le_of_ble_eq_true rfl) h29 (fun σ33 hs34 h32 => ?_)
          refine q_goto o_M_days_106 ?_
          exact q_weak (ls' := [some (.ref 159), some (.int (l1 + 1)), none]) (And.intro rfl (And.intro rfl trivial)) h32
        · have h35 := h24.2 c25
          refine q_aload_n o_M_days_56 rfl ?_
          refine q_iconst (v := 5) o_M_days_57 (by decide) ?_
          refine q2_callVv _ (a := 159) (As := [.int 5]) (st := []) hs21 o_M_days_58 k_M_194 rfl rfl (Nat.le_of_ble_eq_true rfl) h35 (fun σ37 hs38 h36 => ?_)
          refine q_goto o_M_days_61 ?_
          refine q_aload_n o_M_days_100 rfl ?_
          refine q_bipush (v := 59) o_M_days_101 (by decide) ?_
          refine q2_callVv _ (a := 159) (As := [.int 59]) (st := []) hs38 o_M_days_103 k_M_244 rfl rfl (Nat.le_of_ble_eq_true rfl) h36 (fun σ40 hs41 h39 => ?_)
          refine q_goto o_M_days_106 ?_
          exact q_weak (ls' := [some (.ref 159), some (.int l1), none]) (And.intro rfl (And.intro rfl trivial)) h39
      · have h42 := h19.2 c23
        refine q_aload_n o_M_days_42 rfl ?_
        refine q_iconst (v := 1) o_M_days_43 (by decide) ?_
        refine q2_callVv _ (a := 159) (As := [.int 1]) (st := []) hs21 o_M_days_44 k_M_194 rfl rfl (Nat.le_of_ble_eq_true rfl) h42 (fun σ44 hs45 h43 => ?_)
        refine q_goto o_M_days_47 ?_
        refine q_aload_n o_M_days_100 rfl ?_
        refine q_bipush (v := 59) o_M_days_101 (by decide) ?_
        refine q2_callVv _ (a := 159) (As := [.int 59]) (st := []) hs45 o_M_days_103 k_M_244 rfl rfl (Nat.le_of_ble_eq_true rfl) h43 (fun σ47 hs48 h46 => ?_)
        refine q_goto o_M_days_106 ?_
        exact q_weak (ls' := [some (.ref 159), some (.int l1), none]) (And.intro rfl (And.intro rfl trivial)) h46

set_option maxRecDepth 20000 in
theorem v_M_days_130 {G : q_G} {d : Nat} {σ : q_S} {Q : Option Value → q_S → Prop} {l1 : Int32} {l2 : Int32}  (hs : q_Sh σ) (h : (((4 * l1) ≤ l2 → Q (some (.int 0)) σ) ∧ (¬ (4 * l1) ≤ l2 → (∃ k5, (110 + l2) = nI k5 ∧ k5 < 210 ∧ (∃ k7, (1 + l2) = nI k7 ∧ k7 < 210 ∧ q_At G X_M_days (d + 1) 0 0 130 [some (.ref 159), some (.int l1), some (.int (l2 + 1))] [] (q_setI σ 172 k7 (q_I σ 172 k5)) Q))))) : q_At G X_M_days (d + 1) 0 0 130 [some (.ref 159), some (.int l1), some (.int l2)] [] σ Q := by
  refine q_iload_n o_M_days_130 rfl ?_
  refine q_iconst (v := 4) o_M_days_131 (by decide) ?_
  refine q_iload_n o_M_days_132 rfl ?_
  refine q_imul o_M_days_133 ?_
  refine q_icmp_ge o_M_days_134 (fun c1 => ?_) (fun c1 => ?_)
  · have h2 := h.1 c1
    refine q_iconst (v := 0) o_M_days_160 (by decide) ?_
    exact q_ire o_M_days_161 rfl h2
  · have h3 := h.2 c1
    refine q_aload_n o_M_days_137 rfl ?_
    refine q2_getR hs o_M_days_138 f_M_124 rfl (fz_159_21 hs) ?_
    refine q_iconst (v := 1) o_M_days_141 (by decide) ?_
    refine q_iload_n o_M_days_142 rfl ?_
    refine q_iadd o_M_days_143 ?_
    refine q_aload_n o_M_days_144 rfl ?_
    refine q2_getR hs o_M_days_145 f_M_124 rfl (fz_159_21 hs) ?_
    refine q_bipush (v := 110) o_M_days_148 (by decide) ?_
    refine q_iload_n o_M_days_150 rfl ?_
    refine q_iadd o_M_days_151 ?_
    obtain ⟨k5, eh4, bh4, h4⟩ := h3
    refine q2_iald hs o_M_days_152 rfl eh4 bh4 (by decide) ?_
    obtain ⟨k7, eh6, bh6, h6⟩ := h4
    refine q2_iast hs o_M_days_153 rfl eh6 bh6 (by decide) ?_
    refine q2_inc (v := (l2 + 1)) (ls' := [some (.ref 159), some (.int l1), some (.int (l2 + 1))]) o_M_days_154 rfl rfl (Nat.le_of_ble_eq_true rfl) rfl ?_
    refine q_goto o_M_days_157 ?_
    exact h6

set_option maxRecDepth 20000 in
theorem v_M_readDay_0 {G : q_G} {d : Nat} {σ : q_S} {Q : Option Value → q_S → Prop} {p0 : Int32} {p1 : Int32}  (hs : q_Sh σ) (h : ((¬ p0 = 0 → q_Call G d 0 0 X_M_takeTold [.ref 159, .int 0, .int 20] σ (q_ri (fun x6 σ4 => (∃ k8, p1 = nI k8 ∧ k8 < 210 ∧ q_Call G d 0 0 X_M_toldHere [.ref 159, .int 0, .int 20] (q_setI σ4 172 k8 x6) (q_ri (fun x12 σ10 => (∃ k14, (p1 + 1) = nI k14 ∧ k14 < 210 ∧ ((¬ (q_I (q_setI σ10 172 k14 x12) 159 8) = 0 → ((p0 ≤ 1 → (∃ k21, (p1 + 2) = nI k21 ∧ k21 < 210 ∧ Q none (q_setI (q_setI (q_setI σ10 172 k14 x12) 159 7 ((q_I (q_setI σ10 172 k14 x12) 159 7) + (if (q_I (q_setI σ10 172 k14 x12) 159 8) ≤ 0 then (1 : Int32) else (0 : Int32)))) 172 k21 0))) ∧ (¬ p0 ≤ 1 → q_Call G d 0 0 X_M_takeNumber [.ref 159, .int 1, .int 999] (q_setI (q_setI σ10 172 k14 x12) 159 7 ((q_I (q_setI σ10 172 k14 x12) 159 7) + (if (q_I (q_setI σ10 172 k14 x12) 159 8) ≤ 0 then (1 : Int32) else (0 : Int32)))) (q_ri (fun x26 σ24 => (∃ k28, (p1 + 2) = nI k28 ∧ k28 < 210 ∧ Q none (q_setI σ24 172 k28 x26))))))) ∧ ((q_I (q_setI σ10 172 k14 x12) 159 8) = 0 → (∃ k31, p1 = nI k31 ∧ k31 < 210 ∧ (∃ k33, (p1 + 1) = nI k33 ∧ k33 < 210 ∧ ((¬ (q_I (q_setI σ10 172 k14 x12) 172 k31) = (q_I (q_setI σ10 172 k14 x12) 172 k33) → ((p0 ≤ 1 → (∃ k40, (p1 + 2) = nI k40 ∧ k40 < 210 ∧ Q none (q_setI (q_setI (q_setI σ10 172 k14 x12) 159 7 ((q_I (q_setI σ10 172 k14 x12) 159 7) + (if (q_I (q_setI σ10 172 k14 x12) 159 8) ≤ 0 then (1 : Int32) else (0 : Int32)))) 172 k40 0))) ∧ (¬ p0 ≤ 1 → q_Call G d 0 0 X_M_takeNumber [.ref 159, .int 1, .int 999] (q_setI (q_setI σ10 172 k14 x12) 159 7 ((q_I (q_setI σ10 172 k14 x12) 159 7) + (if (q_I (q_setI σ10 172 k14 x12) 159 8) ≤ 0 then (1 : Int32) else (0 : Int32)))) (q_ri (fun x45 σ43 => (∃ k47, (p1 + 2) = nI k47 ∧ k47 < 210 ∧ Q none (q_setI σ43 172 k47 x45))))))) ∧ ((q_I (q_setI σ10 172 k14 x12) 172 k31) = (q_I (q_setI σ10 172 k14 x12) 172 k33) → q_Call G d 0 0 X_M_wrong [.ref 159, .int 3] (q_setI σ10 172 k14 x12) (q_rv (fun σ50 => ((p0 ≤ 1 → (∃ k56, (p1 + 2) = nI k56 ∧ k56 < 210 ∧ Q none (q_setI (q_setI σ50 159 7 ((q_I σ50 159 7) + (if (q_I σ50 159 8) ≤ 0 then (1 : Int32) else (0 : Int32)))) 172 k56 0))) ∧ (¬ p0 ≤ 1 → q_Call G d 0 0 X_M_takeNumber [.ref 159, .int 1, .int 999] (q_setI σ50 159 7 ((q_I σ50 159 7) + (if (q_I σ50 159 8) ≤ 0 then (1 : Int32) else (0 : Int32)))) (q_ri (fun x61 σ59 => (∃ k63, (p1 + 2) = nI k63 ∧ k63 < 210 ∧ Q none (q_setI σ59 172 k63 x61))))))))))))))))))))) ∧ (p0 = 0 → q_Call G d 0 0 X_M_takeNumber [.ref 159, .int 0, .int 9999] σ (q_ri (fun x68 σ66 => (∃ k70, p1 = nI k70 ∧ k70 < 210 ∧ Q none (q_setI σ66 172 k70 x68))))))) : q_At G X_M_readDay (d + 1) 0 0 0 [some (.ref 159), some (.int p0), some (.int p1)] [] σ Q := by
  refine q_iload_n o_M_readDay_0 rfl ?_
  refine q_if_ne o_M_readDay_1 (fun c1 => ?_) (fun c1 => ?_)
  · have h2 := h.1 c1
    refine q_aload_n o_M_readDay_19 rfl ?_
    refine q2_getR hs o_M_readDay_20 f_M_124 rfl (fz_159_21 hs) ?_
    refine q_iload_n o_M_readDay_23 rfl ?_
    refine q_aload_n o_M_readDay_24 rfl ?_
    refine q_iconst (v := 0) o_M_readDay_25 (by decide) ?_
    refine q_bipush (v := 20) o_M_readDay_26 (by decide) ?_
    refine q2_callVi _ (a := 159) (As := [.int 0, .int 20]) (st := [.int p1, .ref 172]) hs o_M_readDay_28 k_M_268 rfl rfl (Nat.le_of_ble_eq_true rfl) h2 (fun x6 σ4 hs5 h3 => ?_)
    obtain ⟨k8, eh7, bh7, h7⟩ := h3
    refine q2_iast hs5 o_M_readDay_31 rfl eh7 bh7 (by decide) ?_
    refine q_aload_n o_M_readDay_32 rfl ?_
    refine q2_getR hs5 o_M_readDay_33 f_M_124 rfl (fz_159_21 hs5) ?_
    refine q_iload_n o_M_readDay_36 rfl ?_
    refine q_iconst (v := 1) o_M_readDay_37 (by decide) ?_
    refine q_iadd o_M_readDay_38 ?_
    refine q_aload_n o_M_readDay_39 rfl ?_
    refine q_iconst (v := 0) o_M_readDay_40 (by decide) ?_
    refine q_bipush (v := 20) o_M_readDay_41 (by decide) ?_
    refine q2_callVi _ (a := 159) (As := [.int 0, .int 20]) (st := [.int (p1 + 1), .ref 172]) hs5 o_M_readDay_43 k_M_231 rfl rfl (Nat.le_of_ble_eq_true rfl) h7 (fun x12 σ10 hs11 h9 => ?_)
    obtain ⟨k14, eh13, bh13, h13⟩ := h9
    refine q2_iast hs11 o_M_readDay_46 rfl eh13 bh13 (by decide) ?_
    refine q_aload_n o_M_readDay_47 rfl ?_
    refine q2_getI hs11 o_M_readDay_48 f_M_188 rfl ?_
    refine q_if_ne o_M_readDay_51 (fun c15 => ?_) (fun c15 => ?_)
    · have h16 := h13.1 c15
      refine q_aload_n o_M_readDay_76 rfl ?_
      refine q_dup o_M_readDay_77 rfl ?_
      refine q2_getI hs11 o_M_readDay_78 f_M_185 rfl ?_
      refine q_aload_n o_M_readDay_81 rfl ?_
      refine q2_getI hs11 o_M_readDay_82 f_M_188 rfl ?_
      have hJ : ∀ vJ : Int32, vJ = (if (q_I (q_setI σ10 172 k14 x12) 159 8) ≤ 0 then (1 : Int32) else (0 : Int32)) → q_At G X_M_readDay (d + 1) 0 0 93 [some (.ref 159), some (.int p0), some (.int p1)] [.int vJ, .int (q_I (q_setI σ10 172 k14 x12) 159 7), .ref 159] (q_setI σ10 172 k14 x12) Q := by
        intro vJ eJ
        rw [eJ]
        clear eJ vJ
        refine q_iadd o_M_readDay_93 ?_
        refine q2_putI hs11 o_M_readDay_94 fp_M_185 rfl rfl rfl ?_
        refine q_aload_n o_M_readDay_97 rfl ?_
        refine q2_getR hs11 o_M_readDay_98 f_M_124 rfl (fz_159_21 hs11) ?_
        refine q_iload_n o_M_readDay_101 rfl ?_
        refine q_iconst (v := 2) o_M_readDay_102 (by decide) ?_
        refine q_iadd o_M_readDay_103 ?_
        refine q_iload_n o_M_readDay_104 rfl ?_
        refine q_iconst (v := 1) o_M_readDay_105 (by decide) ?_
        refine q_icmp_le o_M_readDay_106 (fun c18 => ?_) (fun c18 => ?_)
        · have h19 := h16.1 c18
          refine q_iconst (v := 0) o_M_readDay_120 (by decide) ?_
          obtain ⟨k21, eh20, bh20, h20⟩ := h19
          refine q2_iast hs11 o_M_readDay_121 rfl eh20 bh20 (by decide) ?_
          exact q_vre o_M_readDay_122 rfl h20
        · have h22 := h16.2 c18
          refine q_aload_n o_M_readDay_109 rfl ?_
          refine q_iconst (v := 1) o_M_readDay_110 (by decide) ?_
          refine q_sipush (v := 999) o_M_readDay_111 (by decide) ?_
          refine q2_callVi _ (a := 159) (As := [.int 1, .int 999]) (st := [.int (p1 + 2), .ref 172]) hs11 o_M_readDay_114 k_M_206 rfl rfl (Nat.le_of_ble_eq_true rfl) h22 (fun x26 σ24 hs25 h23 => ?_)
          refine q_goto o_M_readDay_117 ?_
          obtain ⟨k28, eh27, bh27, h27⟩ := h23
          refine q2_iast hs25 o_M_readDay_121 rfl eh27 bh27 (by decide) ?_
          exact q_vre o_M_readDay_122 rfl h27
      refine q_if_le o_M_readDay_85 (fun c17 => ?_) (fun c17 => ?_)
      · refine q_iconst (v := 1) o_M_readDay_92 (by decide) ?_
        exact hJ _ (Eq.symm (if_pos c17))
      · refine q_iconst (v := 0) o_M_readDay_88 (by decide) ?_
        refine q_goto o_M_readDay_89 ?_
        exact hJ _ (Eq.symm (if_neg c17))
    · have h29 := h13.2 c15
      refine q_aload_n o_M_readDay_54 rfl ?_
      refine q2_getR hs11 o_M_readDay_55 f_M_124 rfl (fz_159_21 hs11) ?_
      refine q_iload_n o_M_readDay_58 rfl ?_
      obtain ⟨k31, eh30, bh30, h30⟩ := h29
      refine q2_iald hs11 o_M_readDay_59 rfl eh30 bh30 (by decide) ?_
      refine q_aload_n o_M_readDay_60 rfl ?_
      refine q2_getR hs11 o_M_readDay_61 f_M_124 rfl (fz_159_21 hs11) ?_
      refine q_iload_n o_M_readDay_64 rfl ?_
      refine q_iconst (v := 1) o_M_readDay_65 (by decide) ?_
      refine q_iadd o_M_readDay_66 ?_
      obtain ⟨k33, eh32, bh32, h32⟩ := h30
      refine q2_iald hs11 o_M_readDay_67 rfl eh32 bh32 (by decide) ?_
      refine q_icmp_ne o_M_readDay_68 (fun c34 => ?_) (fun c34 => ?_)
      · have h35 := h32.1 c34
        refine q_aload_n o_M_readDay_76 rfl ?_
        refine q_dup o_M_readDay_77 rfl ?_
        refine q2_getI hs11 o_M_readDay_78 f_M_185 rfl ?_
        refine q_aload_n o_M_readDay_81 rfl ?_
        refine q2_getI hs11 o_M_readDay_82 f_M_188 rfl ?_
        have hJ : ∀ vJ : Int32, vJ = (if (q_I (q_setI σ10 172 k14 x12) 159 8) ≤ 0 then (1 : Int32) else (0 : Int32)) → q_At G X_M_readDay (d + 1) 0 0 93 [some (.ref 159), some (.int p0), some (.int p1)] [.int vJ, .int (q_I (q_setI σ10 172 k14 x12) 159 7), .ref 159] (q_setI σ10 172 k14 x12) Q := by
          intro vJ eJ
          rw [eJ]
          clear eJ vJ
          refine q_iadd o_M_readDay_93 ?_
          refine q2_putI hs11 o_M_readDay_94 fp_M_185 rfl rfl rfl ?_
          refine q_aload_n o_M_readDay_97 rfl ?_
          refine q2_getR hs11 o_M_readDay_98 f_M_124 rfl (fz_159_21 hs11) ?_
          refine q_iload_n o_M_readDay_101 rfl ?_
          refine q_iconst (v := 2) o_M_readDay_102 (by decide) ?_
          refine q_iadd o_M_readDay_103 ?_
          refine q_iload_n o_M_readDay_104 rfl ?_
          refine q_iconst (v := 1) o_M_readDay_105 (by decide) ?_
          refine q_icmp_le o_M_readDay_106 (fun c37 => ?_) (fun c37 => ?_)
          · have h38 := h35.1 c37
            refine q_iconst (v := 0) o_M_readDay_120 (by decide) ?_
            obtain ⟨k40, eh39, bh39, h39⟩ := h38
            refine q2_iast hs11 o_M_readDay_121 rfl eh39 bh39 (by decide) ?_
            exact q_vre o_M_readDay_122 rfl h39
          · have h41 := h35.2 c37
            refine q_aload_n o_M_readDay_109 rfl ?_
            refine q_iconst (v := 1) o_M_readDay_110 (by decide) ?_
            refine q_sipush (v := 999) o_M_readDay_111 (by decide) ?_
            refine q2_callVi _ (a := 159) (As := [.int 1, .int 999]) (st := [.int (p1 + 2), .ref 172]) hs11 o_M_readDay_114 k_M_206 rfl rfl (Nat.le_of_ble_eq_true rfl) h41 (fun x45 σ43 hs44 h42 => ?_)
            refine q_goto o_M_readDay_117 ?_
            obtain ⟨k47, eh46, bh46, h46⟩ := h42
            refine q2_iast hs44 o_M_readDay_121 rfl eh46 bh46 (by decide) ?_
            exact q_vre o_M_readDay_122 rfl h46
        refine q_if_le o_M_readDay_85 (fun c36 => ?_) (fun c36 => ?_)
        · refine q_iconst (v := 1) o_M_readDay_92 (by decide) ?_
          exact hJ _ (Eq.symm (if_pos c36))
        · refine q_iconst (v := 0) o_M_readDay_88 (by decide) ?_
          refine q_goto o_M_readDay_89 ?_
          exact hJ _ (Eq.symm (if_neg c36))
      · have h48 := h32.2 c34
        refine q_aload_n o_M_readDay_71 rfl ?_
        refine q_iconst (v := 3) o_M_readDay_72 (by decide) ?_
        refine q2_callVv _ (a := 159) (As := [.int 3]) (st := []) hs11 o_M_readDay_73 k_M_194 rfl rfl (Nat.le_of_ble_eq_true rfl) h48 (fun σ50 hs51 h49 => ?_)
        refine q_aload_n o_M_readDay_76 rfl ?_
        refine q_dup o_M_readDay_77 rfl ?_
        refine q2_getI hs51 o_M_readDay_78 f_M_185 rfl ?_
        refine q_aload_n o_M_readDay_81 rfl ?_
        refine q2_getI hs51 o_M_readDay_82 f_M_188 rfl ?_
        have hJ : ∀ vJ : Int32, vJ = (if (q_I σ50 159 8) ≤ 0 then (1 : Int32) else (0 : Int32)) → q_At G X_M_readDay (d + 1) 0 0 93 [some (.ref 159), some (.int p0), some (.int p1)] [.int vJ, .int (q_I σ50 159 7), .ref 159] σ50 Q := by
          intro vJ eJ
          rw [eJ]
          clear eJ vJ
          refine q_iadd o_M_readDay_93 ?_
          refine q2_putI hs51 o_M_readDay_94 fp_M_185 rfl rfl rfl ?_
          refine q_aload_n o_M_readDay_97 rfl ?_
          refine q2_getR hs51 o_M_readDay_98 f_M_124 rfl (fz_159_21 hs51) ?_
          refine q_iload_n o_M_readDay_101 rfl ?_
          refine q_iconst (v := 2) o_M_readDay_102 (by decide) ?_
          refine q_iadd o_M_readDay_103 ?_
          refine q_iload_n o_M_readDay_104 rfl ?_
          refine q_iconst (v := 1) o_M_readDay_105 (by decide) ?_
          refine q_icmp_le o_M_readDay_106 (fun c53 => ?_) (fun c53 => ?_)
          · have h54 := h49.1 c53
            refine q_iconst (v := 0) o_M_readDay_120 (by decide) ?_
            obtain ⟨k56, eh55, bh55, h55⟩ := h54
            refine q2_iast hs51 o_M_readDay_121 rfl eh55 bh55 (by decide) ?_
            exact q_vre o_M_readDay_122 rfl h55
          · have h57 := h49.2 c53
            refine q_aload_n o_M_readDay_109 rfl ?_
            refine q_iconst (v := 1) o_M_readDay_110 (by decide) ?_
            refine q_sipush (v := 999) o_M_readDay_111 (by decide) ?_
            refine q2_callVi _ (a := 159) (As := [.int 1, .int 999]) (st := [.int (p1 + 2), .ref 172]) hs51 o_M_readDay_114 k_M_206 rfl rfl (Nat.le_of_ble_eq_true rfl) h57 (fun x61 σ59 hs60 h58 => ?_)
            refine q_goto o_M_readDay_117 ?_
            obtain ⟨k63, eh62, bh62, h62⟩ := h58
            refine q2_iast hs60 o_M_readDay_121 rfl eh62 bh62 (by decide) ?_
            exact q_vre o_M_readDay_122 rfl h62
        refine q_if_le o_M_readDay_85 (fun c52 => ?_) (fun c52 => ?_)
        · refine q_iconst (v := 1) o_M_readDay_92 (by decide) ?_
          exact hJ _ (Eq.symm (if_pos c52))
        · refine q_iconst (v := 0) o_M_readDay_88 (by decide) ?_
          refine q_goto o_M_readDay_89 ?_
          exact hJ _ (Eq.symm (if_neg c52))
  · have h64 := h.2 c1
    refine q_aload_n o_M_readDay_4 rfl ?_
    refine q2_getR hs o_M_readDay_5 f_M_124 rfl (fz_159_21 hs) ?_
    refine q_iload_n o_M_readDay_8 rfl ?_
    refine q_aload_n o_M_readDay_9 rfl ?_
    refine q_iconst (v := 0) o_M_readDay_10 (by decide) ?_
    refine q_sipush (v := 9999) o_M_readDay_11 (by decide) ?_
    refine q2_callVi _ (a := 159) (As := [.int 0, .int 9999]) (st := [.int p1, .ref 172]) hs o_M_readDay_14 k_M_206 rfl rfl (Nat.le_of_ble_eq_true rfl) h64 (fun x68 σ66 hs67 h65 => ?_)
    obtain ⟨k70, eh69, bh69, h69⟩ := h65
    refine q2_iast hs67 o_M_readDay_17 rfl eh69 bh69 (by decide) ?_
    exact q_vre o_M_readDay_18 rfl h69

set_option maxRecDepth 20000 in
theorem v_M_emit_0 {G : q_G} {d : Nat} {σ : q_S} {Q : Option Value → q_S → Prop} {p0 : Int32} {p1 : Int32}  (hs : q_Sh σ) (h : (∃ k2, (1100 + (q_I σ 159 13)) = nI k2 ∧ k2 < 2200 ∧ (∃ k4, (1100 + (q_I (q_setI σ 166 k2 p0) 159 13)) = nI k4 ∧ k4 < 2200 ∧ Q none (q_setI (q_setI (q_setI σ 166 k2 p0) 167 k4 p1) 159 13 ((q_I (q_setI (q_setI σ 166 k2 p0) 167 k4 p1) 159 13) + 1))))) : q_At G X_M_emit d 0 0 0 [some (.ref 159), some (.int p0), some (.int p1)] [] σ Q := by
  refine q_aload_n o_M_emit_0 rfl ?_
  refine q2_getR hs o_M_emit_1 f_M_106 rfl (fz_159_11 hs) ?_
  refine q_sipush (v := 1100) o_M_emit_4 (by decide) ?_
  refine q_aload_n o_M_emit_7 rfl ?_
  refine q2_getI hs o_M_emit_8 f_M_238 rfl ?_
  refine q_iadd o_M_emit_11 ?_
  refine q_iload_n o_M_emit_12 rfl ?_
  obtain ⟨k2, eh1, bh1, h1⟩ := h
  refine q2_iast hs o_M_emit_13 rfl eh1 bh1 (by decide) ?_
  refine q_aload_n o_M_emit_14 rfl ?_
  refine q2_getR hs o_M_emit_15 f_M_109 rfl (fz_159_12 hs) ?_
  refine q_sipush (v := 1100) o_M_emit_18 (by decide) ?_
  refine q_aload_n o_M_emit_21 rfl ?_
  refine q2_getI hs o_M_emit_22 f_M_238 rfl ?_
  refine q_iadd o_M_emit_25 ?_
  refine q_iload_n o_M_emit_26 rfl ?_
  obtain ⟨k4, eh3, bh3, h3⟩ := h1
  refine q2_iast hs o_M_emit_27 rfl eh3 bh3 (by decide) ?_
  refine q_aload_n o_M_emit_28 rfl ?_
  refine q_dup o_M_emit_29 rfl ?_
  refine q2_getI hs o_M_emit_30 f_M_238 rfl ?_
  refine q_iconst (v := 1) o_M_emit_33 (by decide) ?_
  refine q_iadd o_M_emit_34 ?_
  refine q2_putI hs o_M_emit_35 fp_M_238 rfl rfl rfl ?_
  exact q_vre o_M_emit_38 rfl h3

set_option maxRecDepth 20000 in
theorem v_M_all_0 {G : q_G} {d : Nat} {σ : q_S} {Q : Option Value → q_S → Prop} {p0 : Int32}  (hs : q_Sh σ) (h : q_Call G d 0 0 X_M_test [.ref 159, .int p0] σ (q_rv (fun σ2 => q_At G X_M_all (d + 1) 0 0 5 [some (.ref 159), some (.int p0), none] [] σ2 Q))) : q_At G X_M_all (d + 1) 0 0 0 [some (.ref 159), some (.int p0), none] [] σ Q := by
  refine q_aload_n o_M_all_0 rfl ?_
  refine q_iload_n o_M_all_1 rfl ?_
  refine q2_callVv _ (a := 159) (As := [.int p0]) (st := []) hs o_M_all_2 k_M_291 rfl rfl (Nat.le_of_ble_eq_true rfl) h (fun σ2 hs3 h1 => ?_)
  exact h1

set_option maxRecDepth 20000 in
theorem v_M_all_5 {G : q_G} {d : Nat} {σ : q_S} {Q : Option Value → q_S → Prop} {p0 : Int32}  (hs : q_Sh σ) (h : q_Call G d 0 0 X_M_isWord [.ref 159, .int 23] σ (q_ri (fun x4 σ2 => ((¬ x4 = 0 → q_Call G d 0 0 X_M_isWord [.ref 159, .int 23] σ2 (q_ri (fun x10 σ8 => q_Call G d 0 0 X_M_test [.ref 159, .int p0] (q_setI σ8 159 7 ((q_I σ8 159 7) + 1)) (q_rv (fun σ12 => q_Call G d 0 0 X_M_emit [.ref 159, .int (if x10 = 0 then (10 : Int32) else (9 : Int32)), .int 0] σ12 (q_rv (fun σ16 => q_At G X_M_all (d + 1) 0 0 5 [some (.ref 159), some (.int p0), none] [] σ16 Q))))))) ∧ (x4 = 0 → q_Call G d 0 0 X_M_isWord [.ref 159, .int 24] σ2 (q_ri (fun x22 σ20 => ((x22 = 0 → Q none σ20) ∧ (¬ x22 = 0 → q_Call G d 0 0 X_M_isWord [.ref 159, .int 23] σ20 (q_ri (fun x29 σ27 => q_Call G d 0 0 X_M_test [.ref 159, .int p0] (q_setI σ27 159 7 ((q_I σ27 159 7) + 1)) (q_rv (fun σ31 => q_Call G d 0 0 X_M_emit [.ref 159, .int (if x29 = 0 then (10 : Int32) else (9 : Int32)), .int 0] σ31 (q_rv (fun σ35 => q_At G X_M_all (d + 1) 0 0 5 [some (.ref 159), some (.int p0), none] [] σ35 Q))))))))))))))) : q_At G X_M_all (d + 1) 0 0 5 [some (.ref 159), some (.int p0), none] [] σ Q := by
  refine q_aload_n o_M_all_5 rfl ?_
  refine q_bipush (v := 23) o_M_all_6 (by decide) ?_
  refine q2_callVi _ (a := 159) (As := [.int 23]) (st := []) hs o_M_all_8 k_M_197 rfl rfl (Nat.le_of_ble_eq_true rfl) h (fun x4 σ2 hs3 h1 => ?_)
  refine q_if_ne o_M_all_11 (fun c5 => ?_) (fun c5 => ?_)
  · have h6 := h1.1 c5
    refine q_aload_n o_M_all_23 rfl ?_
    refine q_bipush (v := 23) o_M_all_24 (by decide) ?_
    refine q2_callVi _ (a := 159) (As := [.int 23]) (st := []) hs3 o_M_all_26 k_M_197 rfl rfl (Nat.le_of_ble_eq_true rfl) h6 (fun x10 σ8 hs9 h7 => ?_)
    refine q2_istn (ls' := [some (.ref 159), some (.int p0), some (.int x10)]) o_M_all_29 (Nat.le_of_ble_eq_true rfl) rfl ?_
    refine q_aload_n o_M_all_30 rfl ?_
    refine q_dup o_M_all_31 rfl ?_
    refine q2_getI hs9 o_M_all_32 f_M_185 rfl ?_
    refine q_iconst (v := 1) o_M_all_35 (by decide) ?_
    refine q_iadd o_M_all_36 ?_
    refine q2_putI hs9 o_M_all_37 fp_M_185 rfl rfl rfl ?_
    refine q_aload_n o_M_all_40 rfl ?_
    refine q_iload_n o_M_all_41 rfl ?_
    refine q2_callVv _ (a := 159) (As := [.int p0]) (st := []) hs9 o_M_all_42 k_M_291 rfl rfl (Nat.le_of_ble_eq_true rfl) h7 (fun σ12 hs13 h11 => ?_)
    refine q_aload_n o_M_all_45 rfl ?_
    refine q_iload_n o_M_all_46 rfl ?_
    have hJ : ∀ vJ : Int32, vJ = (if x10 = 0 then (10 : Int32) else (9 : Int32)) → q_At G X_M_all (d + 1) 0 0 57 [some (.ref 159), some (.int p0), some (.int x10)] [.int vJ, .ref 159] σ12 Q := by
      intro vJ eJ
      rw [eJ]
      clear eJ vJ
      refine q_iconst (v := 0) o_M_all_57 (by decide) ?_
      refine q2_callVv _ (a := 159) (As := [.int (if x10 = 0 then (10 : Int32) else (9 : Int32)), .int 0]) (st := []) hs13 o_M_all_58 k_M_284 rfl rfl (Nat.le_of_ble_eq_true rfl) h11 (fun σ16 hs17 h15 => ?_)
      refine q_goto o_M_all_61 ?_
      exact q_weak (ls' := [some (.ref 159), some (.int p0), none]) (And.intro rfl (And.intro rfl trivial)) h15
    refine q_if_eq o_M_all_47 (fun c14 => ?_) (fun c14 => ?_)
    · refine q_bipush (v := 10) o_M_all_55 (by decide) ?_
      exact hJ _ (Eq.symm (if_pos c14))
    · refine q_bipush (v := 9) o_M_all_50 (by decide) ?_
      refine q_goto o_M_all_52 ?_
      exact hJ _ (Eq.symm (if_neg c14))
  · have h18 := h1.2 c5
    refine q_aload_n o_M_all_14 rfl ?_
    refine q_bipush (v := 24) o_M_all_15 (by decide) ?_
    refine q2_callVi _ (a := 159) (As := [.int 24]) (st := []) hs3 o_M_all_17 k_M_197 rfl rfl (Nat.le_of_ble_eq_true rfl) h18 (fun x22 σ20 hs21 h19 => ?_)
    refine q_if_eq o_M_all_20 (fun c23 => ?_) (fun c23 => ?_)
    · have h24 := h19.1 c23
      exact q_vre o_M_all_64 rfl h24
    · have h25 := h19.2 c23
      refine q_aload_n o_M_all_23 rfl ?_
      refine q_bipush (v := 23) o_M_all_24 (by decide) ?_
      refine q2_callVi _ (a := 159) (As := [.int 23]) (st := []) hs21 o_M_all_26 k_M_197 rfl rfl (Nat.le_of_ble_eq_true rfl) h25 (fun x29 σ27 hs28 h26 => ?_)
      refine q2_istn (ls' := [some (.ref 159), some (.int p0), some (.int x29)]) o_M_all_29 (Nat.le_of_ble_eq_true rfl) rfl ?_
      refine q_aload_n o_M_all_30 rfl ?_
      refine q_dup o_M_all_31 rfl ?_
      refine q2_getI hs28 o_M_all_32 f_M_185 rfl ?_
      refine q_iconst (v := 1) o_M_all_35 (by decide) ?_
      refine q_iadd o_M_all_36 ?_
      refine q2_putI hs28 o_M_all_37 fp_M_185 rfl rfl rfl ?_
      refine q_aload_n o_M_all_40 rfl ?_
      refine q_iload_n o_M_all_41 rfl ?_
      refine q2_callVv _ (a := 159) (As := [.int p0]) (st := []) hs28 o_M_all_42 k_M_291 rfl rfl (Nat.le_of_ble_eq_true rfl) h26 (fun σ31 hs32 h30 => ?_)
      refine q_aload_n o_M_all_45 rfl ?_
      refine q_iload_n o_M_all_46 rfl ?_
      have hJ : ∀ vJ : Int32, vJ = (if x29 = 0 then (10 : Int32) else (9 : Int32)) → q_At G X_M_all (d + 1) 0 0 57 [some (.ref 159), some (.int p0), some (.int x29)] [.int vJ, .ref 159] σ31 Q := by
        intro vJ eJ
        rw [eJ]
        clear eJ vJ
        refine q_iconst (v := 0) o_M_all_57 (by decide) ?_
        refine q2_callVv _ (a := 159) (As := [.int (if x29 = 0 then (10 : Int32) else (9 : Int32)), .int 0]) (st := []) hs32 o_M_all_58 k_M_284 rfl rfl (Nat.le_of_ble_eq_true rfl) h30 (fun σ35 hs36 h34 => ?_)
        refine q_goto o_M_all_61 ?_
        exact q_weak (ls' := [some (.ref 159), some (.int p0), none]) (And.intro rfl (And.intro rfl trivial)) h34
      refine q_if_eq o_M_all_47 (fun c33 => ?_) (fun c33 => ?_)
      · refine q_bipush (v := 10) o_M_all_55 (by decide) ?_
        exact hJ _ (Eq.symm (if_pos c33))
      · refine q_bipush (v := 9) o_M_all_50 (by decide) ?_
        refine q_goto o_M_all_52 ?_
        exact hJ _ (Eq.symm (if_neg c33))

set_option maxRecDepth 20000 in
theorem v_M_test_0 {G : q_G} {d : Nat} {σ : q_S} {Q : Option Value → q_S → Prop} {p0 : Int32}  (hs : q_Sh σ) (h : q_Call G d 0 0 X_M_sums [.ref 159, .int p0] σ (q_rv (fun σ2 => q_Call G d 0 0 X_M_isSign [.ref 159, .int 60] σ2 (q_ri (fun x7 σ5 => q_Call G d 0 0 X_M_hasSign [.ref 159, .int 60] σ5 (q_ri (fun x11 σ9 => ((¬ x11 = 0 → q_Call G d 0 0 X_M_sums [.ref 159, .int p0] σ9 (q_rv (fun σ15 => q_Call G d 0 0 X_M_emit [.ref 159, .int (if x7 = 0 then (8 : Int32) else (7 : Int32)), .int 0] σ15 (q_rv (fun σ19 => Q none σ19))))) ∧ (x11 = 0 → q_Call G d 0 0 X_M_hasSign [.ref 159, .int 61] σ9 (q_ri (fun x25 σ23 => ((x25 = 0 → Q none σ23) ∧ (¬ x25 = 0 → q_Call G d 0 0 X_M_sums [.ref 159, .int p0] σ23 (q_rv (fun σ30 => q_Call G d 0 0 X_M_emit [.ref 159, .int (if x7 = 0 then (8 : Int32) else (7 : Int32)), .int 0] σ30 (q_rv (fun σ34 => Q none σ34))))))))))))))))) : q_At G X_M_test (d + 1) 0 0 0 [some (.ref 159), some (.int p0), none] [] σ Q := by
  refine q_aload_n o_M_test_0 rfl ?_
  refine q_iload_n o_M_test_1 rfl ?_
  refine q2_callVv _ (a := 159) (As := [.int p0]) (st := []) hs o_M_test_2 k_M_294 rfl rfl (Nat.le_of_ble_eq_true rfl) h (fun σ2 hs3 h1 => ?_)
  refine q_aload_n o_M_test_5 rfl ?_
  refine q_bipush (v := 60) o_M_test_6 (by decide) ?_
  refine q2_callVi _ (a := 159) (As := [.int 60]) (st := []) hs3 o_M_test_8 k_M_191 rfl rfl (Nat.le_of_ble_eq_true rfl) h1 (fun x7 σ5 hs6 h4 => ?_)
  refine q2_istn (ls' := [some (.ref 159), some (.int p0), some (.int x7)]) o_M_test_11 (Nat.le_of_ble_eq_true rfl) rfl ?_
  refine q_aload_n o_M_test_12 rfl ?_
  refine q_bipush (v := 60) o_M_test_13 (by decide) ?_
  refine q2_callVi _ (a := 159) (As := [.int 60]) (st := []) hs6 o_M_test_15 k_M_297 rfl rfl (Nat.le_of_ble_eq_true rfl) h4 (fun x11 σ9 hs10 h8 => ?_)
  refine q_if_ne o_M_test_18 (fun c12 => ?_) (fun c12 => ?_)
  · have h13 := h8.1 c12
    refine q_aload_n o_M_test_30 rfl ?_
    refine q_iload_n o_M_test_31 rfl ?_
    refine q2_callVv _ (a := 159) (As := [.int p0]) (st := []) hs10 o_M_test_32 k_M_294 rfl rfl (Nat.le_of_ble_eq_true rfl) h13 (fun σ15 hs16 h14 => ?_)
    refine q_aload_n o_M_test_35 rfl ?_
    refine q_iload_n o_M_test_36 rfl ?_
    have hJ : ∀ vJ : Int32, vJ = (if x7 = 0 then (8 : Int32) else (7 : Int32)) → q_At G X_M_test (d + 1) 0 0 47 [some (.ref 159), some (.int p0), some (.int x7)] [.int vJ, .ref 159] σ15 Q := by
      intro vJ eJ
      rw [eJ]
      clear eJ vJ
      refine q_iconst (v := 0) o_M_test_47 (by decide) ?_
      refine q2_callVv _ (a := 159) (As := [.int (if x7 = 0 then (8 : Int32) else (7 : Int32)), .int 0]) (st := []) hs16 o_M_test_48 k_M_284 rfl rfl (Nat.le_of_ble_eq_true rfl) h14 (fun σ19 hs20 h18 => ?_)
      exact q_vre o_M_test_51 rfl h18
    refine q_if_eq o_M_test_37 (fun c17 => ?_) (fun c17 => ?_)
    · refine q_bipush (v := 8) o_M_test_45 (by decide) ?_
      exact hJ _ (Eq.symm (if_pos c17))
    · refine q_bipush (v := 7) o_M_test_40 (by decide) ?_
      refine q_goto o_M_test_42 ?_
      exact hJ _ (Eq.symm (if_neg c17))
  · have h21 := h8.2 c12
    refine q_aload_n o_M_test_21 rfl ?_
    refine q_bipush (v := 61) o_M_test_22 (by decide) ?_
    refine q2_callVi _ (a := 159) (As := [.int 61]) (st := []) hs10 o_M_test_24 k_M_297 rfl rfl (Nat.le_of_ble_eq_true rfl) h21 (fun x25 σ23 hs24 h22 => ?_)
    refine q_if_eq o_M_test_27 (fun c26 => ?_) (fun c26 => ?_)
    · have h27 := h22.1 c26
      exact q_vre o_M_test_51 rfl h27
    · have h28 := h22.2 c26
      refine q_aload_n o_M_test_30 rfl ?_
      refine q_iload_n o_M_test_31 rfl ?_
      refine q2_callVv _ (a := 159) (As := [.int p0]) (st := []) hs24 o_M_test_32 k_M_294 rfl rfl (Nat.le_of_ble_eq_true rfl) h28 (fun σ30 hs31 h29 => ?_)
      refine q_aload_n o_M_test_35 rfl ?_
      refine q_iload_n o_M_test_36 rfl ?_
      have hJ : ∀ vJ : Int32, vJ = (if x7 = 0 then (8 : Int32) else (7 : Int32)) → q_At G X_M_test (d + 1) 0 0 47 [some (.ref 159), some (.int p0), some (.int x7)] [.int vJ, .ref 159] σ30 Q := by
        intro vJ eJ
        rw [eJ]
        clear eJ vJ
        refine q_iconst (v := 0) o_M_test_47 (by decide) ?_
        refine q2_callVv _ (a := 159) (As := [.int (if x7 = 0 then (8 : Int32) else (7 : Int32)), .int 0]) (st := []) hs31 o_M_test_48 k_M_284 rfl rfl (Nat.le_of_ble_eq_true rfl) h29 (fun σ34 hs35 h33 => ?_)
        exact q_vre o_M_test_51 rfl h33
      refine q_if_eq o_M_test_37 (fun c32 => ?_) (fun c32 => ?_)
      · refine q_bipush (v := 8) o_M_test_45 (by decide) ?_
        exact hJ _ (Eq.symm (if_pos c32))
      · refine q_bipush (v := 7) o_M_test_40 (by decide) ?_
        refine q_goto o_M_test_42 ?_
        exact hJ _ (Eq.symm (if_neg c32))

set_option maxRecDepth 20000 in
theorem v_M_sums_0 {G : q_G} {d : Nat} {σ : q_S} {Q : Option Value → q_S → Prop} {p0 : Int32}  (hs : q_Sh σ) (h : q_Call G d 0 0 X_M_products [.ref 159, .int p0] σ (q_rv (fun σ2 => q_At G X_M_sums (d + 1) 0 0 5 [some (.ref 159), some (.int p0), none] [] σ2 Q))) : q_At G X_M_sums (d + 1) 0 0 0 [some (.ref 159), some (.int p0), none] [] σ Q := by
  refine q_aload_n o_M_sums_0 rfl ?_
  refine q_iload_n o_M_sums_1 rfl ?_
  refine q2_callVv _ (a := 159) (As := [.int p0]) (st := []) hs o_M_sums_2 k_M_300 rfl rfl (Nat.le_of_ble_eq_true rfl) h (fun σ2 hs3 h1 => ?_)
  exact h1

set_option maxRecDepth 20000 in
theorem v_M_sums_5 {G : q_G} {d : Nat} {σ : q_S} {Q : Option Value → q_S → Prop} {p0 : Int32}  (hs : q_Sh σ) (h : q_Call G d 0 0 X_M_isSign [.ref 159, .int 43] σ (q_ri (fun x4 σ2 => ((¬ x4 = 0 → q_Call G d 0 0 X_M_isSign [.ref 159, .int 43] σ2 (q_ri (fun x10 σ8 => q_Call G d 0 0 X_M_products [.ref 159, .int p0] (q_setI σ8 159 7 ((q_I σ8 159 7) + 1)) (q_rv (fun σ12 => q_Call G d 0 0 X_M_emit [.ref 159, .int (if x10 = 0 then (5 : Int32) else (4 : Int32)), .int 0] σ12 (q_rv (fun σ16 => q_At G X_M_sums (d + 1) 0 0 5 [some (.ref 159), some (.int p0), none] [] σ16 Q))))))) ∧ (x4 = 0 → q_Call G d 0 0 X_M_isSign [.ref 159, .int 45] σ2 (q_ri (fun x22 σ20 => ((x22 = 0 → Q none σ20) ∧ (¬ x22 = 0 → q_Call G d 0 0 X_M_isSign [.ref 159, .int 43] σ20 (q_ri (fun x29 σ27 => q_Call G d 0 0 X_M_products [.ref 159, .int p0] (q_setI σ27 159 7 ((q_I σ27 159 7) + 1)) (q_rv (fun σ31 => q_Call G d 0 0 X_M_emit [.ref 159, .int (if x29 = 0 then (5 : Int32) else (4 : Int32)), .int 0] σ31 (q_rv (fun σ35 => q_At G X_M_sums (d + 1) 0 0 5 [some (.ref 159), some (.int p0), none] [] σ35 Q))))))))))))))) : q_At G X_M_sums (d + 1) 0 0 5 [some (.ref 159), some (.int p0), none] [] σ Q := by
  refine q_aload_n o_M_sums_5 rfl ?_
  refine q_bipush (v := 43) o_M_sums_6 (by decide) ?_
  refine q2_callVi _ (a := 159) (As := [.int 43]) (st := []) hs o_M_sums_8 k_M_191 rfl rfl (Nat.le_of_ble_eq_true rfl) h (fun x4 σ2 hs3 h1 => ?_)
  refine q_if_ne o_M_sums_11 (fun c5 => ?_) (fun c5 => ?_)
  · have h6 := h1.1 c5
    refine q_aload_n o_M_sums_23 rfl ?_
    refine q_bipush (v := 43) o_M_sums_24 (by decide) ?_
    refine q2_callVi _ (a := 159) (As := [.int 43]) (st := []) hs3 o_M_sums_26 k_M_191 rfl rfl (Nat.le_of_ble_eq_true rfl) h6 (fun x10 σ8 hs9 h7 => ?_)
    refine q2_istn (ls' := [some (.ref 159), some (.int p0), some (.int x10)]) o_M_sums_29 (Nat.le_of_ble_eq_true rfl) rfl ?_
    refine q_aload_n o_M_sums_30 rfl ?_
    refine q_dup o_M_sums_31 rfl ?_
    refine q2_getI hs9 o_M_sums_32 f_M_185 rfl ?_
    refine q_iconst (v := 1) o_M_sums_35 (by decide) ?_
    refine q_iadd o_M_sums_36 ?_
    refine q2_putI hs9 o_M_sums_37 fp_M_185 rfl rfl rfl ?_
    refine q_aload_n o_M_sums_40 rfl ?_
    refine q_iload_n o_M_sums_41 rfl ?_
    refine q2_callVv _ (a := 159) (As := [.int p0]) (st := []) hs9 o_M_sums_42 k_M_300 rfl rfl (Nat.le_of_ble_eq_true rfl) h7 (fun σ12 hs13 h11 => ?_)
    refine q_aload_n o_M_sums_45 rfl ?_
    refine q_iload_n o_M_sums_46 rfl ?_
    have hJ : ∀ vJ : Int32, vJ = (if x10 = 0 then (5 : Int32) else (4 : Int32)) → q_At G X_M_sums (d + 1) 0 0 55 [some (.ref 159), some (.int p0), some (.int x10)] [.int vJ, .ref 159] σ12 Q := by
      intro vJ eJ
      rw [eJ]
      clear eJ vJ
      refine q_iconst (v := 0) o_M_sums_55 (by decide) ?_
      refine q2_callVv _ (a := 159) (As := [.int (if x10 = 0 then (5 : Int32) else (4 : Int32)), .int 0]) (st := []) hs13 o_M_sums_56 k_M_284 rfl rfl (Nat.le_of_ble_eq_true rfl) h11 (fun σ16 hs17 h15 => ?_)
      refine q_goto o_M_sums_59 ?_
      exact q_weak (ls' := [some (.ref 159), some (.int p0), none]) (And.intro rfl (And.intro rfl trivial)) h15
    refine q_if_eq o_M_sums_47 (fun c14 => ?_) (fun c14 => ?_)
    · refine q_iconst (v := 5) o_M_sums_54 (by decide) ?_
      exact hJ _ (Eq.symm (if_pos c14))
    · refine q_iconst (v := 4) o_M_sums_50 (by decide) ?_
      refine q_goto o_M_sums_51 ?_
      exact hJ _ (Eq.symm (if_neg c14))
  · have h18 := h1.2 c5
    refine q_aload_n o_M_sums_14 rfl ?_
    refine q_bipush (v := 45) o_M_sums_15 (by decide) ?_
    refine q2_callVi _ (a := 159) (As := [.int 45]) (st := []) hs3 o_M_sums_17 k_M_191 rfl rfl (Nat.le_of_ble_eq_true rfl) h18 (fun x22 σ20 hs21 h19 => ?_)
    refine q_if_eq o_M_sums_20 (fun c23 => ?_) (fun c23 => ?_)
    · have h24 := h19.1 c23
      exact q_vre o_M_sums_62 rfl h24
    · have h25 := h19.2 c23
      refine q_aload_n o_M_sums_23 rfl ?_
      refine q_bipush (v := 43) o_M_sums_24 (by decide) ?_
      refine q2_callVi _ (a := 159) (As := [.int 43]) (st := []) hs21 o_M_sums_26 k_M_191 rfl rfl (Nat.le_of_ble_eq_true rfl) h25 (fun x29 σ27 hs28 h26 => ?_)
      refine q2_istn (ls' := [some (.ref 159), some (.int p0), some (.int x29)]) o_M_sums_29 (Nat.le_of_ble_eq_true rfl) rfl ?_
      refine q_aload_n o_M_sums_30 rfl ?_
      refine q_dup o_M_sums_31 rfl ?_
      refine q2_getI hs28 o_M_sums_32 f_M_185 rfl ?_
      refine q_iconst (v := 1) o_M_sums_35 (by decide) ?_
      refine q_iadd o_M_sums_36 ?_
      refine q2_putI hs28 o_M_sums_37 fp_M_185 rfl rfl rfl ?_
      refine q_aload_n o_M_sums_40 rfl ?_
      refine q_iload_n o_M_sums_41 rfl ?_
      refine q2_callVv _ (a := 159) (As := [.int p0]) (st := []) hs28 o_M_sums_42 k_M_300 rfl rfl (Nat.le_of_ble_eq_true rfl) h26 (fun σ31 hs32 h30 => ?_)
      refine q_aload_n o_M_sums_45 rfl ?_
      refine q_iload_n o_M_sums_46 rfl ?_
      have hJ : ∀ vJ : Int32, vJ = (if x29 = 0 then (5 : Int32) else (4 : Int32)) → q_At G X_M_sums (d + 1) 0 0 55 [some (.ref 159), some (.int p0), some (.int x29)] [.int vJ, .ref 159] σ31 Q := by
        intro vJ eJ
        rw [eJ]
        clear eJ vJ
        refine q_iconst (v := 0) o_M_sums_55 (by decide) ?_
        refine q2_callVv _ (a := 159) (As := [.int (if x29 = 0 then (5 : Int32) else (4 : Int32)), .int 0]) (st := []) hs32 o_M_sums_56 k_M_284 rfl rfl (Nat.le_of_ble_eq_true rfl) h30 (fun σ35 hs36 h34 => ?_)
        refine q_goto o_M_sums_59 ?_
        exact q_weak (ls' := [some (.ref 159), some (.int p0), none]) (And.intro rfl (And.intro rfl trivial)) h34
      refine q_if_eq o_M_sums_47 (fun c33 => ?_) (fun c33 => ?_)
      · refine q_iconst (v := 5) o_M_sums_54 (by decide) ?_
        exact hJ _ (Eq.symm (if_pos c33))
      · refine q_iconst (v := 4) o_M_sums_50 (by decide) ?_
        refine q_goto o_M_sums_51 ?_
        exact hJ _ (Eq.symm (if_neg c33))

set_option maxRecDepth 20000 in
theorem v_M_products_0 {G : q_G} {d : Nat} {σ : q_S} {Q : Option Value → q_S → Prop} {p0 : Int32}  (hs : q_Sh σ) (h : q_Call G d 0 0 X_M_takePart [.ref 159, .int p0] σ (q_rv (fun σ2 => q_At G X_M_products (d + 1) 0 0 5 [some (.ref 159), some (.int p0)] [] σ2 Q))) : q_At G X_M_products (d + 1) 0 0 0 [some (.ref 159), some (.int p0)] [] σ Q := by
  refine q_aload_n o_M_products_0 rfl ?_
  refine q_iload_n o_M_products_1 rfl ?_
  refine q2_callVv _ (a := 159) (As := [.int p0]) (st := []) hs o_M_products_2 k_M_303 rfl rfl (Nat.le_of_ble_eq_true rfl) h (fun σ2 hs3 h1 => ?_)
  exact h1

set_option maxRecDepth 20000 in
theorem v_M_products_5 {G : q_G} {d : Nat} {σ : q_S} {Q : Option Value → q_S → Prop} {p0 : Int32}  (hs : q_Sh σ) (h : q_Call G d 0 0 X_M_hasSign [.ref 159, .int 42] σ (q_ri (fun x4 σ2 => ((x4 = 0 → Q none σ2) ∧ (¬ x4 = 0 → q_Call G d 0 0 X_M_takePart [.ref 159, .int p0] σ2 (q_rv (fun σ9 => q_Call G d 0 0 X_M_emit [.ref 159, .int 6, .int 0] σ9 (q_rv (fun σ12 => q_At G X_M_products (d + 1) 0 0 5 [some (.ref 159), some (.int p0)] [] σ12 Q))))))))) : q_At G X_M_products (d + 1) 0 0 5 [some (.ref 159), some (.int p0)] [] σ Q := by
  refine q_aload_n o_M_products_5 rfl ?_
  refine q_bipush (v := 42) o_M_products_6 (by decide) ?_
  refine q2_callVi _ (a := 159) (As := [.int 42]) (st := []) hs o_M_products_8 k_M_297 rfl rfl (Nat.le_of_ble_eq_true rfl) h (fun x4 σ2 hs3 h1 => ?_)
  refine q_if_eq o_M_products_11 (fun c5 => ?_) (fun c5 => ?_)
  · have h6 := h1.1 c5
    exact q_vre o_M_products_29 rfl h6
  · have h7 := h1.2 c5
    refine q_aload_n o_M_products_14 rfl ?_
    refine q_iload_n o_M_products_15 rfl ?_
    refine q2_callVv _ (a := 159) (As := [.int p0]) (st := []) hs3 o_M_products_16 k_M_303 rfl rfl (Nat.le_of_ble_eq_true rfl) h7 (fun σ9 hs10 h8 => ?_)
    refine q_aload_n o_M_products_19 rfl ?_
    refine q_bipush (v := 6) o_M_products_20 (by decide) ?_
    refine q_iconst (v := 0) o_M_products_22 (by decide) ?_
    refine q2_callVv _ (a := 159) (As := [.int 6, .int 0]) (st := []) hs10 o_M_products_23 k_M_284 rfl rfl (Nat.le_of_ble_eq_true rfl) h8 (fun σ12 hs13 h11 => ?_)
    refine q_goto o_M_products_26 ?_
    exact h11

set_option maxRecDepth 20000 in
theorem v_M_takePart_0 {G : q_G} {d : Nat} {σ : q_S} {Q : Option Value → q_S → Prop} {p0 : Int32}  (hs : q_Sh σ) (h : (((q_I σ 159 8) ≤ 0 → (∃ k4, (q_I σ 159 7) = nI k4 ∧ k4 < 1002 ∧ q_Call G d 0 0 X_M_wordHere [.ref 159, .int 25, .int 8] σ (q_ri (fun x9 σ7 => ((0 ≤ (if x9 < 0 then ((-1) : Int32) else (if (((q_I σ7 159 20) >>> (x9 &&& 31)) &&& 1) = 1 then x9 else ((-1) : Int32))) → q_At G X_M_takePart (d + 1) 0 0 92 [some (.ref 159), some (.int p0), some (.int (if (q_I σ 161 k4) = 2 then (1 : Int32) else (0 : Int32))), some (.int (if x9 < 0 then ((-1) : Int32) else (if (((q_I σ7 159 20) >>> (x9 &&& 31)) &&& 1) = 1 then x9 else ((-1) : Int32))))] [] σ7 Q) ∧ (¬ 0 ≤ (if x9 < 0 then ((-1) : Int32) else (if (((q_I σ7 159 20) >>> (x9 &&& 31)) &&& 1) = 1 then x9 else ((-1) : Int32))) → ((¬ (if (q_I σ 161 k4) = 2 then (1 : Int32) else (0 : Int32)) = 0 → q_At G X_M_takePart (d + 1) 0 0 92 [some (.ref 159), some (.int p0), some (.int (if (q_I σ 161 k4) = 2 then (1 : Int32) else (0 : Int32))), some (.int (if x9 < 0 then ((-1) : Int32) else (if (((q_I σ7 159 20) >>> (x9 &&& 31)) &&& 1) = 1 then x9 else ((-1) : Int32))))] [] σ7 Q) ∧ ((if (q_I σ 161 k4) = 2 then (1 : Int32) else (0 : Int32)) = 0 → q_Call G d 0 0 X_M_isSign [.ref 159, .int 40] σ7 (q_ri (fun x21 σ19 => ((¬ x21 = 0 → q_At G X_M_takePart (d + 1) 0 0 92 [some (.ref 159), some (.int p0), some (.int (if (q_I σ 161 k4) = 2 then (1 : Int32) else (0 : Int32))), some (.int (if x9 < 0 then ((-1) : Int32) else (if (((q_I σ7 159 20) >>> (x9 &&& 31)) &&& 1) = 1 then x9 else ((-1) : Int32))))] [] σ19 Q) ∧ (x21 = 0 → q_Call G d 0 0 X_M_isWord [.ref 159, .int 22] σ19 (q_ri (fun x28 σ26 => ((¬ x28 = 0 → q_At G X_M_takePart (d + 1) 0 0 92 [some (.ref 159), some (.int p0), some (.int (if (q_I σ 161 k4) = 2 then (1 : Int32) else (0 : Int32))), some (.int (if x9 < 0 then ((-1) : Int32) else (if (((q_I σ7 159 20) >>> (x9 &&& 31)) &&& 1) = 1 then x9 else ((-1) : Int32))))] [] σ26 Q) ∧ (x28 = 0 → q_Call G d 0 0 X_M_wrong [.ref 159, .int 1] σ26 (q_rv (fun σ33 => q_At G X_M_takePart (d + 1) 0 0 102 [some (.ref 159), some (.int p0), some (.int (if (q_I σ 161 k4) = 2 then (1 : Int32) else (0 : Int32))), some (.int (if x9 < 0 then ((-1) : Int32) else (if (((q_I σ7 159 20) >>> (x9 &&& 31)) &&& 1) = 1 then x9 else ((-1) : Int32))))] [] σ33 Q)))))))))))))))))) ∧ (¬ (q_I σ 159 8) ≤ 0 → Q none σ))) : q_At G X_M_takePart (d + 1) 0 0 0 [some (.ref 159), some (.int p0), none, none] [] σ Q := by
  refine q_aload_n o_M_takePart_0 rfl ?_
  refine q2_getI hs o_M_takePart_1 f_M_188 rfl ?_
  refine q_if_le o_M_takePart_4 (fun c1 => ?_) (fun c1 => ?_)
  · have h2 := h.1 c1
    refine q_aload_n o_M_takePart_8 rfl ?_
    refine q2_getR hs o_M_takePart_9 f_M_24 rfl (fz_159_4 hs) ?_
    refine q_aload_n o_M_takePart_12 rfl ?_
    refine q2_getI hs o_M_takePart_13 f_M_185 rfl ?_
    obtain ⟨k4, eh3, bh3, h3⟩ := h2
    refine q2_iald hs o_M_takePart_16 rfl eh3 bh3 (by decide) ?_
    refine q_iconst (v := 2) o_M_takePart_17 (by decide) ?_
    have hJ : ∀ vJ : Int32, vJ = (if (q_I σ 161 k4) = 2 then (1 : Int32) else (0 : Int32)) → q_At G X_M_takePart (d + 1) 0 0 26 [some (.ref 159), some (.int p0), none, none] [.int vJ] σ Q := by
      intro vJ eJ
      rw [eJ]
      clear eJ vJ
      refine q2_istn (ls' := [some (.ref 159), some (.int p0), some (.int (if (q_I σ 161 k4) = 2 then (1 : Int32) else (0 : Int32))), none]) o_M_takePart_26 (Nat.le_of_ble_eq_true rfl) rfl ?_
      refine q_aload_n o_M_takePart_27 rfl ?_
      refine q_bipush (v := 25) o_M_takePart_28 (by decide) ?_
      refine q_bipush (v := 8) o_M_takePart_30 (by decide) ?_
      refine q2_callVi _ (a := 159) (As := [.int 25, .int 8]) (st := []) hs o_M_takePart_32 k_M_210 rfl rfl (Nat.le_of_ble_eq_true rfl) h3 (fun x9 σ7 hs8 h6 => ?_)
      refine q2_istn (ls' := [some (.ref 159), some (.int p0), some (.int (if (q_I σ 161 k4) = 2 then (1 : Int32) else (0 : Int32))), some (.int x9)]) o_M_takePart_35 (Nat.le_of_ble_eq_true rfl) rfl ?_
      refine q_iload_n o_M_takePart_36 rfl ?_
      have hJ : ∀ vJ : Int32, vJ = (if x9 < 0 then ((-1) : Int32) else (if (((q_I σ7 159 20) >>> (x9 &&& 31)) &&& 1) = 1 then x9 else ((-1) : Int32))) → q_At G X_M_takePart (d + 1) 0 0 57 [some (.ref 159), some (.int p0), some (.int (if (q_I σ 161 k4) = 2 then (1 : Int32) else (0 : Int32))), some (.int x9)] [.int vJ] σ7 Q := by
        intro vJ eJ
        rw [eJ]
        clear eJ vJ
        refine q2_istn (ls' := [some (.ref 159), some (.int p0), some (.int (if (q_I σ 161 k4) = 2 then (1 : Int32) else (0 : Int32))), some (.int (if x9 < 0 then ((-1) : Int32) else (if (((q_I σ7 159 20) >>> (x9 &&& 31)) &&& 1) = 1 then x9 else ((-1) : Int32))))]) o_M_takePart_57 (Nat.le_of_ble_eq_true rfl) rfl ?_
        refine q_iload_n o_M_takePart_58 rfl ?_
        refine q_if_ge o_M_takePart_59 (fun c12 => ?_) (fun c12 => ?_)
        · have h13 := h6.1 c12
          exact h13
        · have h14 := h6.2 c12
          refine q_iload_n o_M_takePart_62 rfl ?_
          refine q_if_ne o_M_takePart_63 (fun c15 => ?_) (fun c15 => ?_)
          · have h16 := h14.1 c15
            exact h16
          · have h17 := h14.2 c15
            refine q_aload_n o_M_takePart_66 rfl ?_
            refine q_bipush (v := 40) o_M_takePart_67 (by decide) ?_
            refine q2_callVi _ (a := 159) (As := [.int 40]) (st := []) hs8 o_M_takePart_69 k_M_191 rfl rfl (Nat.le_of_ble_eq_true rfl) h17 (fun x21 σ19 hs20 h18 => ?_)
            refine q_if_ne o_M_takePart_72 (fun c22 => ?_) (fun c22 => ?_)
            · have h23 := h18.1 c22
              exact h23
            · have h24 := h18.2 c22
              refine q_aload_n o_M_takePart_75 rfl ?_
              refine q_bipush (v := 22) o_M_takePart_76 (by decide) ?_
              refine q2_callVi _ (a := 159) (As := [.int 22]) (st := []) hs20 o_M_takePart_78 k_M_197 rfl rfl (Nat.le_of_ble_eq_true rfl) h24 (fun x28 σ26 hs27 h25 => ?_)
              refine q_if_ne o_M_takePart_81 (fun c29 => ?_) (fun c29 => ?_)
              · have h30 := h25.1 c29
                exact h30
              · have h31 := h25.2 c29
                refine q_aload_n o_M_takePart_84 rfl ?_
                refine q_iconst (v := 1) o_M_takePart_85 (by decide) ?_
                refine q2_callVv _ (a := 159) (As := [.int 1]) (st := []) hs27 o_M_takePart_86 k_M_194 rfl rfl (Nat.le_of_ble_eq_true rfl) h31 (fun σ33 hs34 h32 => ?_)
                refine q_goto o_M_takePart_89 ?_
                exact h32
      refine q_if_lt o_M_takePart_37 (fun c10 => ?_) (fun c10 => ?_)
      · refine q_iconst (v := (-1)) o_M_takePart_56 (by decide) ?_
        exact hJ _ (Eq.symm (if_pos c10))
      · refine q_aload_n o_M_takePart_40 rfl ?_
        refine q2_getI hs8 o_M_takePart_41 f_M_278 rfl ?_
        refine q_iload_n o_M_takePart_44 rfl ?_
        refine q_ishr o_M_takePart_45 ?_
        refine q_iconst (v := 1) o_M_takePart_46 (by decide) ?_
        refine q_iand o_M_takePart_47 ?_
        refine q_iconst (v := 1) o_M_takePart_48 (by decide) ?_
        refine q_icmp_ne o_M_takePart_49 (fun c11 => ?_) (fun c11 => ?_)
        · refine q_iconst (v := (-1)) o_M_takePart_56 (by decide) ?_
          exact hJ _ (Eq.symm ((if_neg c10).trans (if_neg c11)))
        · refine q_iload_n o_M_takePart_52 rfl ?_
          refine q_goto o_M_takePart_53 ?_
          exact hJ _ (Eq.symm ((if_neg c10).trans (if_pos c11)))
    refine q_icmp_ne o_M_takePart_18 (fun c5 => ?_) (fun c5 => ?_)
    · refine q_iconst (v := 0) o_M_takePart_25 (by decide) ?_
      exact hJ _ (Eq.symm (if_neg c5))
    · refine q_iconst (v := 1) o_M_takePart_21 (by decide) ?_
      refine q_goto o_M_takePart_22 ?_
      exact hJ _ (Eq.symm (if_pos c5))
  · have h35 := h.2 c1
    exact q_vre o_M_takePart_7 rfl h35

set_option maxRecDepth 20000 in
theorem v_M_takePart_92 {G : q_G} {d : Nat} {σ : q_S} {Q : Option Value → q_S → Prop} {p0 : Int32} {l2 : Int32} {l3 : Int32}  (hs : q_Sh σ) (h : ((¬ p0 = 5 → q_At G X_M_takePart (d + 1) 0 0 102 [some (.ref 159), some (.int p0), some (.int l2), some (.int l3)] [] σ Q) ∧ (p0 = 5 → q_Call G d 0 0 X_M_wrong [.ref 159, .int 5] σ (q_rv (fun σ5 => q_At G X_M_takePart (d + 1) 0 0 102 [some (.ref 159), some (.int p0), some (.int l2), some (.int l3)] [] σ5 Q))))) : q_At G X_M_takePart (d + 1) 0 0 92 [some (.ref 159), some (.int p0), some (.int l2), some (.int l3)] [] σ Q := by
  refine q_iload_n o_M_takePart_92 rfl ?_
  refine q_iconst (v := 5) o_M_takePart_93 (by decide) ?_
  refine q_icmp_ne o_M_takePart_94 (fun c1 => ?_) (fun c1 => ?_)
  · have h2 := h.1 c1
    exact h2
  · have h3 := h.2 c1
    refine q_aload_n o_M_takePart_97 rfl ?_
    refine q_iconst (v := 5) o_M_takePart_98 (by decide) ?_
    refine q2_callVv _ (a := 159) (As := [.int 5]) (st := []) hs o_M_takePart_99 k_M_194 rfl rfl (Nat.le_of_ble_eq_true rfl) h3 (fun σ5 hs6 h4 => ?_)
    exact h4

set_option maxRecDepth 20000 in
theorem v_M_takePart_102 {G : q_G} {d : Nat} {σ : q_S} {Q : Option Value → q_S → Prop} {p0 : Int32} {l2 : Int32} {l3 : Int32}  (hs : q_Sh σ) (h : (((q_I σ 159 8) ≤ 0 → q_Call G d 0 0 X_M_hasWord [.ref 159, .int 22] σ (q_ri (fun x6 σ4 => ((x6 = 0 → q_Call G d 0 0 X_M_hasSign [.ref 159, .int 40] σ4 (q_ri (fun x12 σ10 => ((x12 = 0 → ((l2 = 0 → q_Call G d 0 0 X_M_emit [.ref 159, .int (if l2 = 0 then (2 : Int32) else (1 : Int32)), .int l3] σ10 (q_rv (fun σ19 => Q none (q_setI σ19 159 7 ((q_I σ19 159 7) + 1))))) ∧ (¬ l2 = 0 → (∃ k23, (q_I σ10 159 7) = nI k23 ∧ k23 < 1002 ∧ q_Call G d 0 0 X_M_emit [.ref 159, .int (if l2 = 0 then (2 : Int32) else (1 : Int32)), .int ((q_L σ10 163 k23).toInt32)] σ10 (q_rv (fun σ25 => Q none (q_setI σ25 159 7 ((q_I σ25 159 7) + 1)))))))) ∧ (¬ x12 = 0 → q_Call G d 0 0 X_M_all [.ref 159, .int (p0 + 1)] σ10 (q_rv (fun σ29 => q_Call G d 0 0 X_M_takeSign [.ref 159, .int 41] σ29 (q_rv (fun σ32 => Q none σ32))))))))) ∧ (¬ x6 = 0 → q_Call G d 0 0 X_M_takePart [.ref 159, .int (p0 + 1)] σ4 (q_rv (fun σ36 => q_Call G d 0 0 X_M_emit [.ref 159, .int 3, .int 0] σ36 (q_rv (fun σ39 => Q none σ39))))))))) ∧ (¬ (q_I σ 159 8) ≤ 0 → Q none σ))) : q_At G X_M_takePart (d + 1) 0 0 102 [some (.ref 159), some (.int p0), some (.int l2), some (.int l3)] [] σ Q := by
  refine q_aload_n o_M_takePart_102 rfl ?_
  refine q2_getI hs o_M_takePart_103 f_M_188 rfl ?_
  refine q_if_le o_M_takePart_106 (fun c1 => ?_) (fun c1 => ?_)
  · have h2 := h.1 c1
    refine q_aload_n o_M_takePart_110 rfl ?_
    refine q_bipush (v := 22) o_M_takePart_111 (by decide) ?_
    refine q2_callVi _ (a := 159) (As := [.int 22]) (st := []) hs o_M_takePart_113 k_M_200 rfl rfl (Nat.le_of_ble_eq_true rfl) h2 (fun x6 σ4 hs5 h3 => ?_)
    refine q_if_eq o_M_takePart_116 (fun c7 => ?_) (fun c7 => ?_)
    · have h8 := h3.1 c7
      refine q_aload_n o_M_takePart_135 rfl ?_
      refine q_bipush (v := 40) o_M_takePart_136 (by decide) ?_
      refine q2_callVi _ (a := 159) (As := [.int 40]) (st := []) hs5 o_M_takePart_138 k_M_297 rfl rfl (Nat.le_of_ble_eq_true rfl) h8 (fun x12 σ10 hs11 h9 => ?_)
      refine q_if_eq o_M_takePart_141 (fun c13 => ?_) (fun c13 => ?_)
      · have h14 := h9.1 c13
        refine q_aload_n o_M_takePart_160 rfl ?_
        refine q_iload_n o_M_takePart_161 rfl ?_
        have hJ : ∀ vJ : Int32, vJ = (if l2 = 0 then (2 : Int32) else (1 : Int32)) → q_At G X_M_takePart (d + 1) 0 0 170 [some (.ref 159), some (.int p0), some (.int l2), some (.int l3)] [.int vJ, .ref 159] σ10 Q := by
          intro vJ eJ
          rw [eJ]
          clear eJ vJ
          refine q_iload_n o_M_takePart_170 rfl ?_
          refine q_if_eq o_M_takePart_171 (fun c16 => ?_) (fun c16 => ?_)
          · have h17 := h14.1 c16
            refine q_iload_n o_M_takePart_187 rfl ?_
            refine q2_callVv _ (a := 159) (As := [.int (if l2 = 0 then (2 : Int32) else (1 : Int32)), .int l3]) (st := []) hs11 o_M_takePart_188 k_M_284 rfl rfl (Nat.le_of_ble_eq_true rfl) h17 (fun σ19 hs20 h18 => ?_)
            refine q_aload_n o_M_takePart_191 rfl ?_
            refine q_dup o_M_takePart_192 rfl ?_
            refine q2_getI hs20 o_M_takePart_193 f_M_185 rfl ?_
            refine q_iconst (v := 1) o_M_takePart_196 (by decide) ?_
            refine q_iadd o_M_takePart_197 ?_
            refine q2_putI hs20 o_M_takePart_198 fp_M_185 rfl rfl rfl ?_
            exact q_vre o_M_takePart_201 rfl h18
          · have h21 := h14.2 c16
            refine q_aload_n o_M_takePart_174 rfl ?_
            refine q2_getR hs11 o_M_takePart_175 f_M_30 rfl (fz_159_6 hs11) ?_
            refine q_aload_n o_M_takePart_178 rfl ?_
            refine q2_getI hs11 o_M_takePart_179 f_M_185 rfl ?_
            obtain ⟨k23, eh22, bh22, h22⟩ := h21
            refine q2_lald hs11 o_M_takePart_182 rfl eh22 bh22 (by decide) ?_
            refine q_l2i o_M_takePart_183 ?_
            refine q_goto o_M_takePart_184 ?_
            refine q2_callVv _ (a := 159) (As := [.int (if l2 = 0 then (2 : Int32) else (1 : Int32)), .int ((q_L σ10 163 k23).toInt32)]) (st := []) hs11 o_M_takePart_188 k_M_284 rfl rfl (Nat.le_of_ble_eq_true rfl) h22 (fun σ25 hs26 h24 => ?_)
            refine q_aload_n o_M_takePart_191 rfl ?_
            refine q_dup o_M_takePart_192 rfl ?_
            refine q2_getI hs26 o_M_takePart_193 f_M_185 rfl ?_
            refine q_iconst (v := 1) o_M_takePart_196 (by decide) ?_
            refine q_iadd o_M_takePart_197 ?_
            refine q2_putI hs26 o_M_takePart_198 fp_M_185 rfl rfl rfl ?_
            exact q_vre o_M_takePart_201 rfl h24
        refine q_if_eq o_M_takePart_162 (fun c15 => ?_) (fun c15 => ?_)
        · refine q_iconst (v := 2) o_M_takePart_169 (by decide) ?_
          exact hJ _ (Eq.symm (if_pos c15))
        · refine q_iconst (v := 1) o_M_takePart_165 (by decide) ?_
          refine q_goto o_M_takePart_166 ?_
          exact hJ _ (Eq.symm (if_neg c15))
      · have h27 := h9.2 c13
        refine q_aload_n o_M_takePart_144 rfl ?_
        refine q_iload_n o_M_takePart_145 rfl ?_
        refine q_iconst (v := 1) o_M_takePart_146 (by decide) ?_
        refine q_iadd o_M_takePart_147 ?_
        refine q2_callVv _ (a := 159) (As := [.int (p0 + 1)]) (st := []) hs11 o_M_takePart_148 k_M_281 rfl rfl (Nat.le_of_ble_eq_true rfl) h27 (fun σ29 hs30 h28 => ?_)
        refine q_aload_n o_M_takePart_151 rfl ?_
        refine q_bipush (v := 41) o_M_takePart_152 (by decide) ?_
        refine q2_callVv _ (a := 159) (As := [.int 41]) (st := []) hs30 o_M_takePart_154 k_M_244 rfl rfl (Nat.le_of_ble_eq_true rfl) h28 (fun σ32 hs33 h31 => ?_)
        refine q_goto o_M_takePart_157 ?_
        exact q_vre o_M_takePart_201 rfl h31
    · have h34 := h3.2 c7
      refine q_aload_n o_M_takePart_119 rfl ?_
      refine q_iload_n o_M_takePart_120 rfl ?_
      refine q_iconst (v := 1) o_M_takePart_121 (by decide) ?_
      refine q_iadd o_M_takePart_122 ?_
      refine q2_callVv _ (a := 159) (As := [.int (p0 + 1)]) (st := []) hs5 o_M_takePart_123 k_M_303 rfl rfl (Nat.le_of_ble_eq_true rfl) h34 (fun σ36 hs37 h35 => ?_)
      refine q_aload_n o_M_takePart_126 rfl ?_
      refine q_iconst (v := 3) o_M_takePart_127 (by decide) ?_
      refine q_iconst (v := 0) o_M_takePart_128 (by decide) ?_
      refine q2_callVv _ (a := 159) (As := [.int 3, .int 0]) (st := []) hs37 o_M_takePart_129 k_M_284 rfl rfl (Nat.le_of_ble_eq_true rfl) h35 (fun σ39 hs40 h38 => ?_)
      refine q_goto o_M_takePart_132 ?_
      exact q_vre o_M_takePart_201 rfl h38
  · have h41 := h.2 c1
    exact q_vre o_M_takePart_109 rfl h41

set_option maxRecDepth 20000 in
theorem v_M_worthAt_0 {G : q_G} {d : Nat} {σ : q_S} {Q : Option Value → q_S → Prop} {p0 : Int32}  (hs : q_Sh σ) (h : q_At G X_M_worthAt (d + 1) 0 0 4 [some (.ref 159), some (.int p0), some (.int 0), some (.int p0), none] [] σ Q) : q_At G X_M_worthAt (d + 1) 0 0 0 [some (.ref 159), some (.int p0), none, none, none] [] σ Q := by
  refine q_iconst (v := 0) o_M_worthAt_0 (by decide) ?_
  refine q2_istn (ls' := [some (.ref 159), some (.int p0), some (.int 0), none, none]) o_M_worthAt_1 (Nat.le_of_ble_eq_true rfl) rfl ?_
  refine q_iload_n o_M_worthAt_2 rfl ?_
  refine q2_istn (ls' := [some (.ref 159), some (.int p0), some (.int 0), some (.int p0), none]) o_M_worthAt_3 (Nat.le_of_ble_eq_true rfl) rfl ?_
  exact h

set_option maxRecDepth 20000 in
theorem v_M_worthAt_4 {G : q_G} {d : Nat} {σ : q_S} {Q : Option Value → q_S → Prop} {p0 : Int32} {l2 : Int32} {l3 : Int32}  (hs : q_Sh σ) (h : (∃ k2, l3 = nI k2 ∧ k2 < 2200 ∧ (((q_I σ 166 k2) = 0 → Q (some (.int (q_I σ 174 0))) σ) ∧ (¬ (q_I σ 166 k2) = 0 → (∃ k9, l3 = nI k9 ∧ k9 < 2200 ∧ (((q_I σ 166 k9) = 1 → ((¬ (q_I σ 166 k9) = 1 → (∃ k15, l3 = nI k15 ∧ k15 < 2200 ∧ (∃ k17, (q_I σ 167 k15) = nI k17 ∧ k17 < 8 ∧ (∃ k19, l2 = nI k19 ∧ k19 < 1100 ∧ q_At G X_M_worthAt (d + 1) 0 0 4 [some (.ref 159), some (.int p0), some (.int (l2 + 1)), some (.int (l3 + 1)), none] [] (q_setI σ 174 k19 (q_I σ 173 k17)) Q)))) ∧ ((q_I σ 166 k9) = 1 → (∃ k22, l3 = nI k22 ∧ k22 < 2200 ∧ (∃ k24, l2 = nI k24 ∧ k24 < 1100 ∧ q_At G X_M_worthAt (d + 1) 0 0 4 [some (.ref 159), some (.int p0), some (.int (l2 + 1)), some (.int (l3 + 1)), none] [] (q_setI σ 174 k24 (q_I σ 167 k22)) Q))))) ∧ (¬ (q_I σ 166 k9) = 1 → ((¬ (q_I σ 166 k9) = 2 → ((¬ (q_I σ 166 k9) = 3 → (∃ k31, ((l2 + (-1)) - 1) = nI k31 ∧ k31 < 1100 ∧ (∃ k33, (l2 + (-1)) = nI k33 ∧ k33 < 1100 ∧ q_Call G d 0 0 X_M_both [.int (q_I σ 166 k9), .int (q_I σ 174 k31), .int (q_I σ 174 k33)] σ (q_ri (fun x37 σ35 => (∃ k39, ((l2 + (-1)) - 1) = nI k39 ∧ k39 < 1100 ∧ q_At G X_M_worthAt (d + 1) 0 0 4 [some (.ref 159), some (.int p0), some (.int (l2 + (-1))), some (.int (l3 + 1)), none] [] (q_setI σ35 174 k39 x37) Q)))))) ∧ ((q_I σ 166 k9) = 3 → (∃ k42, (l2 - 1) = nI k42 ∧ k42 < 1100 ∧ (∃ k45, (l2 - 1) = nI k45 ∧ k45 < 1100 ∧ q_At G X_M_worthAt (d + 1) 0 0 4 [some (.ref 159), some (.int p0), some (.int l2), some (.int (l3 + 1)), none] [] (q_setI σ 174 k45 (if (q_I σ 174 k42) = 0 then (1 : Int32) else (0 : Int32))) Q))))) ∧ ((q_I σ 166 k9) = 2 → ((¬ (q_I σ 166 k9) = 1 → (∃ k50, l3 = nI k50 ∧ k50 < 2200 ∧ (∃ k52, (q_I σ 167 k50) = nI k52 ∧ k52 < 8 ∧ (∃ k54, l2 = nI k54 ∧ k54 < 1100 ∧ q_At G X_M_worthAt (d + 1) 0 0 4 [some (.ref 159), some (.int p0), some (.int (l2 + 1)), some (.int (l3 + 1)), none] [] (q_setI σ 174 k54 (q_I σ 173 k52)) Q)))) ∧ ((q_I σ 166 k9) = 1 → (∃ k57, l3 = nI k57 ∧ k57 < 2200 ∧ (∃ k59, l2 = nI k59 ∧ k59 < 1100 ∧ q_At G X_M_worthAt (d + 1) 0 0 4 [some (.ref 159), some (.int p0), some (.int (l2 + 1)), some (.int (l3 + 1)), none] [] (q_setI σ 174 k59 (q_I σ 167 k57)) Q))))))))))))) : q_At G X_M_worthAt (d + 1) 0 0 4 [some (.ref 159), some (.int p0), some (.int l2), some (.int l3), none] [] σ Q := by
  refine q_aload_n o_M_worthAt_4 rfl ?_
  refine q2_getR hs o_M_worthAt_5 f_M_106 rfl (fz_159_11 hs) ?_
  refine q_iload_n o_M_worthAt_8 rfl ?_
  obtain ⟨k2, eh1, bh1, h1⟩ := h
  refine q2_iald hs o_M_worthAt_9 rfl eh1 bh1 (by decide) ?_
  refine q_if_eq o_M_worthAt_10 (fun c3 => ?_) (fun c3 => ?_)
  · have h4 := h1.1 c3
    refine q_aload_n o_M_worthAt_140 rfl ?_
    refine q2_getR hs o_M_worthAt_141 f_M_130 rfl (fz_159_23 hs) ?_
    refine q_iconst (v := 0) o_M_worthAt_144 (by decide) ?_
    refine q2_iald (i := 0) hs o_M_worthAt_145 rfl rfl (by decide) (by decide) ?_
    exact q_ire o_M_worthAt_146 rfl h4
  · have h7 := h1.2 c3
    refine q_aload_n o_M_worthAt_13 rfl ?_
    refine q2_getR hs o_M_worthAt_14 f_M_106 rfl (fz_159_11 hs) ?_
    refine q_iload_n o_M_worthAt_17 rfl ?_
    obtain ⟨k9, eh8, bh8, h8⟩ := h7
    refine q2_iald hs o_M_worthAt_18 rfl eh8 bh8 (by decide) ?_
    refine q2_ist (ls' := [some (.ref 159), some (.int p0), some (.int l2), some (.int l3), some (.int (q_I σ 166 k9))]) o_M_worthAt_19 (Nat.le_of_ble_eq_true rfl) rfl ?_
    refine q_iload o_M_worthAt_21 rfl ?_
    refine q_iconst (v := 1) o_M_worthAt_23 (by decide) ?_
    refine q_icmp_eq o_M_worthAt_24 (fun c10 => ?_) (fun c10 => ?_)
    · have h11 := h8.1 c10
      refine q_aload_n o_M_worthAt_33 rfl ?_
      refine q2_getR hs o_M_worthAt_34 f_M_130 rfl (fz_159_23 hs) ?_
      refine q_iload_n o_M_worthAt_37 rfl ?_
      refine q_iload o_M_worthAt_38 rfl ?_
      refine q_iconst (v := 1) o_M_worthAt_40 (by decide) ?_
      refine q_icmp_ne o_M_worthAt_41 (fun c12 => ?_) (fun c12 => ?_)
      · have h13 := h11.1 c12
        refine q_aload_n o_M_worthAt_53 rfl ?_
        refine q2_getR hs o_M_worthAt_54 f_M_127 rfl (fz_159_22 hs) ?_
        refine q_aload_n o_M_worthAt_57 rfl ?_
        refine q2_getR hs o_M_worthAt_58 f_M_109 rfl (fz_159_12 hs) ?_
        refine q_iload_n o_M_worthAt_61 rfl ?_
        obtain ⟨k15, eh14, bh14, h14⟩ := h13
        refine q2_iald hs o_M_worthAt_62 rfl eh14 bh14 (by decide) ?_
        obtain ⟨k17, eh16, bh16, h16⟩ := h14
        refine q2_iald hs o_M_worthAt_63 rfl eh16 bh16 (by decide) ?_
        obtain ⟨k19, eh18, bh18, h18⟩ := h16
        refine q2_iast hs o_M_worthAt_64 rfl eh18 bh18 (by decide) ?_
        refine q2_inc (v := (l2 + 1)) (ls' := [some (.ref 159), some (.int p0), some (.int (l2 + 1)), some (.int l3), some (.int (q_I σ 166 k9))]) o_M_worthAt_65 rfl rfl (Nat.le_of_ble_eq_true rfl) rfl ?_
        refine q_goto o_M_worthAt_68 ?_
        refine q2_inc (v := (l3 + 1)) (ls' := [some (.ref 159), some (.int p0), some (.int (l2 + 1)), some (.int (l3 + 1)), some (.int (q_I σ 166 k9))]) o_M_worthAt_134 rfl rfl (Nat.le_of_ble_eq_true rfl) rfl ?_
        refine q_goto o_M_worthAt_137 ?_
        exact q_weak (ls' := [some (.ref 159), some (.int p0), some (.int (l2 + 1)), some (.int (l3 + 1)), none]) (And.intro rfl (And.intro rfl (And.intro rfl (And.intro rfl trivial)))) h18
      · have h20 := h11.2 c12
        refine q_aload_n o_M_worthAt_44 rfl ?_
        refine q2_getR hs o_M_worthAt_45 f_M_109 rfl (fz_159_12 hs) ?_
        refine q_iload_n o_M_worthAt_48 rfl ?_
        obtain ⟨k22, eh21, bh21, h21⟩ := h20
        refine q2_iald hs o_M_worthAt_49 rfl eh21 bh21 (by decide) ?_
        refine q_goto o_M_worthAt_50 ?_
        obtain ⟨k24, eh23, bh23, h23⟩ := h21
        refine q2_iast hs o_M_worthAt_64 rfl eh23 bh23 (by decide) ?_
        refine q2_inc (v := (l2 + 1)) (ls' := [some (.ref 159), some (.int p0), some (.int (l2 + 1)), some (.int l3), some (.int (q_I σ 166 k9))]) o_M_worthAt_65 rfl rfl (Nat.le_of_ble_eq_true rfl) rfl ?_
        refine q_goto o_M_worthAt_68 ?_
        refine q2_inc (v := (l3 + 1)) (ls' := [some (.ref 159), some (.int p0), some (.int (l2 + 1)), some (.int (l3 + 1)), some (.int (q_I σ 166 k9))]) o_M_worthAt_134 rfl rfl (Nat.le_of_ble_eq_true rfl) rfl ?_
        refine q_goto o_M_worthAt_137 ?_
        exact q_weak (ls' := [some (.ref 159), some (.int p0), some (.int (l2 + 1)), some (.int (l3 + 1)), none]) (And.intro rfl (And.intro rfl (And.intro rfl (And.intro rfl trivial)))) h23
    · have h25 := h8.2 c10
      refine q_iload o_M_worthAt_27 rfl ?_
      refine q_iconst (v := 2) o_M_worthAt_29 (by decide) ?_
      refine q_icmp_ne o_M_worthAt_30 (fun c26 => ?_) (fun c26 => ?_)
      · have h27 := h25.1 c26
        refine q_iload o_M_worthAt_71 rfl ?_
        refine q_iconst (v := 3) o_M_worthAt_73 (by decide) ?_
        refine q_icmp_ne o_M_worthAt_74 (fun c28 => ?_) (fun c28 => ?_)
        · have h29 := h27.1 c28
          refine q2_inc (v := (l2 + (-1))) (ls' := [some (.ref 159), some (.int p0), some (.int (l2 + (-1))), some (.int l3), some (.int (q_I σ 166 k9))]) o_M_worthAt_104 rfl rfl (Nat.le_of_ble_eq_true rfl) rfl ?_
          refine q_aload_n o_M_worthAt_107 rfl ?_
          refine q2_getR hs o_M_worthAt_108 f_M_130 rfl (fz_159_23 hs) ?_
          refine q_iload_n o_M_worthAt_111 rfl ?_
          refine q_iconst (v := 1) o_M_worthAt_112 (by decide) ?_
          refine q_isub o_M_worthAt_113 ?_
          refine q_iload o_M_worthAt_114 rfl ?_
          refine q_aload_n o_M_worthAt_116 rfl ?_
          refine q2_getR hs o_M_worthAt_117 f_M_130 rfl (fz_159_23 hs) ?_
          refine q_iload_n o_M_worthAt_120 rfl ?_
          refine q_iconst (v := 1) o_M_worthAt_121 (by decide) ?_
          refine q_isub o_M_worthAt_122 ?_
          obtain ⟨k31, eh30, bh30, h30⟩ := h29
          refine q2_iald hs o_M_worthAt_123 rfl eh30 bh30 (by decide) ?_
          refine q_aload_n o_M_worthAt_124 rfl ?_
          refine q2_getR hs o_M_worthAt_125 f_M_130 rfl (fz_159_23 hs) ?_
          refine q_iload_n o_M_worthAt_128 rfl ?_
          obtain ⟨k33, eh32, bh32, h32⟩ := h30
          refine q2_iald hs o_M_worthAt_129 rfl eh32 bh32 (by decide) ?_
          refine q2_callSi _ (As := [.int (q_I σ 166 k9), .int (q_I σ 174 k31), .int (q_I σ 174 k33)]) (st := [.int ((l2 + (-1)) - 1), .ref 174]) hs o_M_worthAt_130 k_M_306 rfl (Nat.le_of_ble_eq_true rfl) h32 (fun x37 σ35 hs36 h34 => ?_)
          obtain ⟨k39, eh38, bh38, h38⟩ := h34
          refine q2_iast hs36 o_M_worthAt_133 rfl eh38 bh38 (by decide) ?_
          refine q2_inc (v := (l3 + 1)) (ls' := [some (.ref 159), some (.int p0), some (.int (l2 + (-1))), some (.int (l3 + 1)), some (.int (q_I σ 166 k9))]) o_M_worthAt_134 rfl rfl (Nat.le_of_ble_eq_true rfl) rfl ?_
          refine q_goto o_M_worthAt_137 ?_
          exact q_weak (ls' := [some (.ref 159), some (.int p0), some (.int (l2 + (-1))), some (.int (l3 + 1)), none]) (And.intro rfl (And.intro rfl (And.intro rfl (And.intro rfl trivial)))) h38
        · have h40 := h27.2 c28
          refine q_aload_n o_M_worthAt_77 rfl ?_
          refine q2_getR hs o_M_worthAt_78 f_M_130 rfl (fz_159_23 hs) ?_
          refine q_iload_n o_M_worthAt_81 rfl ?_
          refine q_iconst (v := 1) o_M_worthAt_82 (by decide) ?_
          refine q_isub o_M_worthAt_83 ?_
          refine q_aload_n o_M_worthAt_84 rfl ?_
          refine q2_getR hs o_M_worthAt_85 f_M_130 rfl (fz_159_23 hs) ?_
          refine q_iload_n o_M_worthAt_88 rfl ?_
          refine q_iconst (v := 1) o_M_worthAt_89 (by decide) ?_
          refine q_isub o_M_worthAt_90 ?_
          obtain ⟨k42, eh41, bh41, h41⟩ := h40
          refine q2_iald hs o_M_worthAt_91 rfl eh41 bh41 (by decide) ?_
          have hJ : ∀ vJ : Int32, vJ = (if (q_I σ 174 k42) = 0 then (1 : Int32) else (0 : Int32)) → q_At G X_M_worthAt (d + 1) 0 0 100 [some (.ref 159), some (.int p0), some (.int l2), some (.int l3), some (.int (q_I σ 166 k9))] [.int vJ, .int (l2 - 1), .ref 174] σ Q := by
            intro vJ eJ
            rw [eJ]
            clear eJ vJ
            obtain ⟨k45, eh44, bh44, h44⟩ := h41
            refine q2_iast hs o_M_worthAt_100 rfl eh44 bh44 (by decide) ?_
            refine q_goto o_M_worthAt_101 ?_
            refine q2_inc (v := (l3 + 1)) (ls' := [some (.ref 159), some (.int p0), some (.int l2), some (.int (l3 + 1)), some (.int (q_I σ 166 k9))]) o_M_worthAt_134 rfl rfl (Nat.le_of_ble_eq_true rfl) rfl ?_
            refine q_goto o_M_worthAt_137 ?_
            exact q_weak (ls' := [some (.ref 159), some (.int p0), some (.int l2), some (.int (l3 + 1)), none]) (And.intro rfl (And.intro rfl (And.intro rfl (And.intro rfl trivial)))) h44
          refine q_if_ne o_M_worthAt_92 (fun c43 => ?_) (fun c43 => ?_)
          · refine q_iconst (v := 0) o_M_worthAt_99 (by decide) ?_
            exact hJ _ (Eq.symm (if_neg c43))
          · refine q_iconst (v := 1) o_M_worthAt_95 (by decide) ?_
            refine q_goto o_M_worthAt_96 ?_
            exact hJ _ (Eq.symm (if_pos c43))
      · have h46 := h25.2 c26
        refine q_aload_n o_M_worthAt_33 rfl ?_
        refine q2_getR hs o_M_worthAt_34 f_M_130 rfl (fz_159_23 hs) ?_
        refine q_iload_n o_M_worthAt_37 rfl ?_
        refine q_iload o_M_worthAt_38 rfl ?_
        refine q_iconst (v := 1) o_M_worthAt_40 (by decide) ?_
        refine q_icmp_ne o_M_worthAt_41 (fun c47 => ?_) (fun c47 => ?_)
        · have h48 := h46.1 c47
          refine q_aload_n o_M_worthAt_53 rfl ?_
          refine q2_getR hs o_M_worthAt_54 f_M_127 rfl (fz_159_22 hs) ?_
          refine q_aload_n o_M_worthAt_57 rfl ?_
          refine q2_getR hs o_M_worthAt_58 f_M_109 rfl (fz_159_12 hs) ?_
          refine q_iload_n o_M_worthAt_61 rfl ?_
          obtain ⟨k50, eh49, bh49, h49⟩ := h48
          refine q2_iald hs o_M_worthAt_62 rfl eh49 bh49 (by decide) ?_
          obtain ⟨k52, eh51, bh51, h51⟩ := h49
          refine q2_iald hs o_M_worthAt_63 rfl eh51 bh51 (by decide) ?_
          obtain ⟨k54, eh53, bh53, h53⟩ := h51
          refine q2_iast hs o_M_worthAt_64 rfl eh53 bh53 (by decide) ?_
          refine q2_inc (v := (l2 + 1)) (ls' := [some (.ref 159), some (.int p0), some (.int (l2 + 1)), some (.int l3), some (.int (q_I σ 166 k9))]) o_M_worthAt_65 rfl rfl (Nat.le_of_ble_eq_true rfl) rfl ?_
          refine q_goto o_M_worthAt_68 ?_
          refine q2_inc (v := (l3 + 1)) (ls' := [some (.ref 159), some (.int p0), some (.int (l2 + 1)), some (.int (l3 + 1)), some (.int (q_I σ 166 k9))]) o_M_worthAt_134 rfl rfl (Nat.le_of_ble_eq_true rfl) rfl ?_
          refine q_goto o_M_worthAt_137 ?_
          exact q_weak (ls' := [some (.ref 159), some (.int p0), some (.int (l2 + 1)), some (.int (l3 + 1)), none]) (And.intro rfl (And.intro rfl (And.intro rfl (And.intro rfl trivial)))) h53
        · have h55 := h46.2 c47
          refine q_aload_n o_M_worthAt_44 rfl ?_
          refine q2_getR hs o_M_worthAt_45 f_M_109 rfl (fz_159_12 hs) ?_
          refine q_iload_n o_M_worthAt_48 rfl ?_
          obtain ⟨k57, eh56, bh56, h56⟩ := h55
          refine q2_iald hs o_M_worthAt_49 rfl eh56 bh56 (by decide) ?_
          refine q_goto o_M_worthAt_50 ?_
          obtain ⟨k59, eh58, bh58, h58⟩ := h56
          refine q2_iast hs o_M_worthAt_64 rfl eh58 bh58 (by decide) ?_
          refine q2_inc (v := (l2 + 1)) (ls' := [some (.ref 159), some (.int p0), some (.int (l2 + 1)), some (.int l3), some (.int (q_I σ 166 k9))]) o_M_worthAt_65 rfl rfl (Nat.le_of_ble_eq_true rfl) rfl ?_
          refine q_goto o_M_worthAt_68 ?_
          refine q2_inc (v := (l3 + 1)) (ls' := [some (.ref 159), some (.int p0), some (.int (l2 + 1)), some (.int (l3 + 1)), some (.int (q_I σ 166 k9))]) o_M_worthAt_134 rfl rfl (Nat.le_of_ble_eq_true rfl) rfl ?_
          refine q_goto o_M_worthAt_137 ?_
          exact q_weak (ls' := [some (.ref 159), some (.int p0), some (.int (l2 + 1)), some (.int (l3 + 1)), none]) (And.intro rfl (And.intro rfl (And.intro rfl (And.intro rfl trivial)))) h58

set_option maxRecDepth 20000 in
theorem v_M_both_0 {G : q_G} {d : Nat} {σ : q_S} {Q : Option Value → q_S → Prop} {p0 : Int32} {p1 : Int32} {p2 : Int32}  (hs : q_Sh σ) (h : (((p0.toInt < 4 ∨ 9 < p0.toInt) → Q (some (.int (if p1 = 0 then (if p2 = 0 then (0 : Int32) else (1 : Int32)) else (1 : Int32)))) σ) ∧ ((p0.toInt = 4 → Q (some (.int (p1 + p2))) σ) ∧ (p0.toInt = 5 → Q (some (.int (p1 - p2))) σ) ∧ (p0.toInt = 6 → Q (some (.int (p1 * p2))) σ) ∧ (p0.toInt = 7 → Q (some (.int (if p2 ≤ p1 then (0 : Int32) else (1 : Int32)))) σ) ∧ (p0.toInt = 8 → Q (some (.int (if p1 = p2 then (1 : Int32) else (0 : Int32)))) σ) ∧ (p0.toInt = 9 → Q (some (.int (if p1 = 0 then (0 : Int32) else (if p2 = 0 then (0 : Int32) else (1 : Int32))))) σ)))) : q_At G X_M_both d 0 0 0 [some (.int p0), some (.int p1), some (.int p2)] [] σ Q := by
  refine q_iload_n o_M_both_0 rfl ?_
  rcases q_sw 4 9 p0 with c0 | ⟨kk, c1, c2, c3⟩
  · have h1 := h.1 c0
    refine q_tabOut (tgt := 88) o_M_both_1 c0 (by decide) ?_
    refine q_iload_n o_M_both_88 rfl ?_
    have hJ : ∀ vJ : Int32, vJ = (if p1 = 0 then (if p2 = 0 then (0 : Int32) else (1 : Int32)) else (1 : Int32)) → q_At G X_M_both d 0 0 101 [some (.int p0), some (.int p1), some (.int p2)] [.int vJ] σ Q := by
      intro vJ eJ
      rw [eJ]
      clear eJ vJ
      exact q_ire o_M_both_101 rfl h1
    refine q_if_ne o_M_both_89 (fun c2 => ?_) (fun c2 => ?_)
    · refine q_iconst (v := 1) o_M_both_96 (by decide) ?_
      refine q_goto o_M_both_97 ?_
      exact hJ _ (Eq.symm (if_neg c2))
    · refine q_iload_n o_M_both_92 rfl ?_
      refine q_if_eq o_M_both_93 (fun c3 => ?_) (fun c3 => ?_)
      · refine q_iconst (v := 0) o_M_both_100 (by decide) ?_
        exact hJ _ (Eq.symm ((if_pos c2).trans (if_pos c3)))
      · refine q_iconst (v := 1) o_M_both_96 (by decide) ?_
        refine q_goto o_M_both_97 ?_
        exact hJ _ (Eq.symm ((if_pos c2).trans (if_neg c3)))
  · have h4 := h.2
    have hx : p0.toInt = 4 + (kk : Int) := c3
    have hkk : kk = 0 ∨ kk = 1 ∨ kk = 2 ∨ kk = 3 ∨ kk = 4 ∨ kk = 5 := by omega
    rcases hkk with rfl | rfl | rfl | rfl | rfl | rfl
    · have h5 := h4.1 (by simpa using hx)
      refine q_tabIn (tgt := 40) (off := 39) o_M_both_1 c1 c2 (by rw [show p0.toInt = 4 by simpa using hx]; rfl) (by decide) ?_
      refine q_iload_n o_M_both_40 rfl ?_
      refine q_iload_n o_M_both_41 rfl ?_
      refine q_iadd o_M_both_42 ?_
      exact q_ire o_M_both_43 rfl h5
    · have h6 := h4.2.1 (by simpa using hx)
      refine q_tabIn (tgt := 44) (off := 43) o_M_both_1 c1 c2 (by rw [show p0.toInt = 5 by simpa using hx]; rfl) (by decide) ?_
      refine q_iload_n o_M_both_44 rfl ?_
      refine q_iload_n o_M_both_45 rfl ?_
      refine q_isub o_M_both_46 ?_
      exact q_ire o_M_both_47 rfl h6
    · have h7 := h4.2.2.1 (by simpa using hx)
      refine q_tabIn (tgt := 48) (off := 47) o_M_both_1 c1 c2 (by rw [show p0.toInt = 6 by simpa using hx]; rfl) (by decide) ?_
      refine q_iload_n o_M_both_48 rfl ?_
      refine q_iload_n o_M_both_49 rfl ?_
      refine q_imul o_M_both_50 ?_
      exact q_ire o_M_both_51 rfl h7
    · have h8 := h4.2.2.2.1 (by simpa using hx)
      refine q_tabIn (tgt := 52) (off := 51) o_M_both_1 c1 c2 (by rw [show p0.toInt = 7 by simpa using hx]; rfl) (by decide) ?_
      refine q_iload_n o_M_both_52 rfl ?_
      refine q_iload_n o_M_both_53 rfl ?_
      have hJ : ∀ vJ : Int32, vJ = (if p2 ≤ p1 then (0 : Int32) else (1 : Int32)) → q_At G X_M_both d 0 0 62 [some (.int p0), some (.int p1), some (.int p2)] [.int vJ] σ Q := by
        intro vJ eJ
        rw [eJ]
        clear eJ vJ
        exact q_ire o_M_both_62 rfl h8
      refine q_icmp_ge o_M_both_54 (fun c9 => ?_) (fun c9 => ?_)
      · refine q_iconst (v := 0) o_M_both_61 (by decide) ?_
        exact hJ _ (Eq.symm (if_pos c9))
      · refine q_iconst (v := 1) o_M_both_57 (by decide) ?_
        refine q_goto o_M_both_58 ?_
        exact hJ _ (Eq.symm (if_neg c9))
    · have h10 := h4.2.2.2.2.1 (by simpa using hx)
      refine q_tabIn (tgt := 63) (off := 62) o_M_both_1 c1 c2 (by rw [show p0.toInt = 8 by simpa using hx]; rfl) (by decide) ?_
      refine q_iload_n o_M_both_63 rfl ?_
      refine q_iload_n o_M_both_64 rfl ?_
      have hJ : ∀ vJ : Int32, vJ = (if p1 = p2 then (1 : Int32) else (0 : Int32)) → q_At G X_M_both d 0 0 73 [some (.int p0), some (.int p1), some (.int p2)] [.int vJ] σ Q := by
        intro vJ eJ
        rw [eJ]
        clear eJ vJ
        exact q_ire o_M_both_73 rfl h10
      refine q_icmp_ne o_M_both_65 (fun c11 => ?_) (fun c11 => ?_)
      · refine q_iconst (v := 0) o_M_both_72 (by decide) ?_
        exact hJ _ (Eq.symm (if_neg c11))
      · refine q_iconst (v := 1) o_M_both_68 (by decide) ?_
        refine q_goto o_M_both_69 ?_
        exact hJ _ (Eq.symm (if_pos c11))
    · have h12 := h4.2.2.2.2.2 (by simpa using hx)
      refine q_tabIn (tgt := 74) (off := 73) o_M_both_1 c1 c2 (by rw [show p0.toInt = 9 by simpa using hx]; rfl) (by decide) ?_
      refine q_iload_n o_M_both_74 rfl ?_
      have hJ : ∀ vJ : Int32, vJ = (if p1 = 0 then (0 : Int32) else (if p2 = 0 then (0 : Int32) else (1 : Int32))) → q_At G X_M_both d 0 0 87 [some (.int p0), some (.int p1), some (.int p2)] [.int vJ] σ Q := by
        intro vJ eJ
        rw [eJ]
        clear eJ vJ
        exact q_ire o_M_both_87 rfl h12
      refine q_if_eq o_M_both_75 (fun c13 => ?_) (fun c13 => ?_)
      · refine q_iconst (v := 0) o_M_both_86 (by decide) ?_
        exact hJ _ (Eq.symm (if_pos c13))
      · refine q_iload_n o_M_both_78 rfl ?_
        refine q_if_eq o_M_both_79 (fun c14 => ?_) (fun c14 => ?_)
        · refine q_iconst (v := 0) o_M_both_86 (by decide) ?_
          exact hJ _ (Eq.symm ((if_neg c13).trans (if_pos c14)))
        · refine q_iconst (v := 1) o_M_both_82 (by decide) ?_
          refine q_goto o_M_both_83 ?_
          exact hJ _ (Eq.symm ((if_neg c13).trans (if_neg c14)))

set_option maxRecDepth 20000 in
theorem v_M_copies_0 {G : q_G} {d : Nat} {σ : q_S} {Q : Option Value → q_S → Prop} {p0 : Int32} {p1 : Int32} {p2 : Int32}  (hs : q_Sh σ) (h : q_At G X_M_copies d 0 0 3 [some (.ref 159), some (.int p0), some (.int p1), some (.int p2), some (.int 0)] [] σ Q) : q_At G X_M_copies d 0 0 0 [some (.ref 159), some (.int p0), some (.int p1), some (.int p2), none] [] σ Q := by
  refine q_iconst (v := 0) o_M_copies_0 (by decide) ?_
  refine q2_ist (ls' := [some (.ref 159), some (.int p0), some (.int p1), some (.int p2), some (.int 0)]) o_M_copies_1 (Nat.le_of_ble_eq_true rfl) rfl ?_
  exact h

set_option maxRecDepth 20000 in
theorem v_M_copies_3 {G : q_G} {d : Nat} {σ : q_S} {Q : Option Value → q_S → Prop} {p0 : Int32} {p1 : Int32} {p2 : Int32} {l4 : Int32}  (hs : q_Sh σ) (h : ((p2 ≤ l4 → Q none σ) ∧ (¬ p2 ≤ l4 → (∃ k5, (p0 + l4) = nI k5 ∧ k5 < 1886 ∧ (∃ k7, (p1 + l4) = nI k7 ∧ k7 < 1886 ∧ q_At G X_M_copies d 0 0 3 [some (.ref 159), some (.int p0), some (.int p1), some (.int p2), some (.int (l4 + 1))] [] (q_setI σ 175 k7 (q_I σ 175 k5)) Q))))) : q_At G X_M_copies d 0 0 3 [some (.ref 159), some (.int p0), some (.int p1), some (.int p2), some (.int l4)] [] σ Q := by
  refine q_iload o_M_copies_3 rfl ?_
  refine q_iload_n o_M_copies_5 rfl ?_
  refine q_icmp_ge o_M_copies_6 (fun c1 => ?_) (fun c1 => ?_)
  · have h2 := h.1 c1
    exact q_vre o_M_copies_33 rfl h2
  · have h3 := h.2 c1
    refine q_aload_n o_M_copies_9 rfl ?_
    refine q2_getR hs o_M_copies_10 f_M_133 rfl (fz_159_24 hs) ?_
    refine q_iload_n o_M_copies_13 rfl ?_
    refine q_iload o_M_copies_14 rfl ?_
    refine q_iadd o_M_copies_16 ?_
    refine q_aload_n o_M_copies_17 rfl ?_
    refine q2_getR hs o_M_copies_18 f_M_133 rfl (fz_159_24 hs) ?_
    refine q_iload_n o_M_copies_21 rfl ?_
    refine q_iload o_M_copies_22 rfl ?_
    refine q_iadd o_M_copies_24 ?_
    obtain ⟨k5, eh4, bh4, h4⟩ := h3
    refine q2_iald hs o_M_copies_25 rfl eh4 bh4 (by decide) ?_
    obtain ⟨k7, eh6, bh6, h6⟩ := h4
    refine q2_iast hs o_M_copies_26 rfl eh6 bh6 (by decide) ?_
    refine q2_inc (v := (l4 + 1)) (ls' := [some (.ref 159), some (.int p0), some (.int p1), some (.int p2), some (.int (l4 + 1))]) o_M_copies_27 rfl rfl (Nat.le_of_ble_eq_true rfl) rfl ?_
    refine q_goto o_M_copies_30 ?_
    exact h6

set_option maxRecDepth 20000 in
theorem v_M_starts_0 {G : q_G} {d : Nat} {σ : q_S} {Q : Option Value → q_S → Prop} {p0 : Int32}  (hs : q_Sh σ) (h : q_At G X_M_starts (d + 1) 0 0 2 [some (.ref 159), some (.int p0), some (.int 0)] [] σ Q) : q_At G X_M_starts (d + 1) 0 0 0 [some (.ref 159), some (.int p0), none] [] σ Q := by
  refine q_iconst (v := 0) o_M_starts_0 (by decide) ?_
  refine q2_istn (ls' := [some (.ref 159), some (.int p0), some (.int 0)]) o_M_starts_1 (Nat.le_of_ble_eq_true rfl) rfl ?_
  exact h

set_option maxRecDepth 20000 in
theorem v_M_starts_2 {G : q_G} {d : Nat} {σ : q_S} {Q : Option Value → q_S → Prop} {p0 : Int32} {l2 : Int32}  (hs : q_Sh σ) (h : ((6 ≤ l2 → q_At G X_M_starts (d + 1) 0 0 56 [some (.ref 159), some (.int p0), some (.int 0)] [] σ Q) ∧ (¬ 6 ≤ l2 → (∃ k5, ((p0 + 0) + l2) = nI k5 ∧ k5 < 1886 ∧ (((q_I (q_setI σ 175 k5 l2) 165 1) ≤ l2 → (∃ k9, ((p0 + 6) + l2) = nI k9 ∧ k9 < 1886 ∧ q_At G X_M_starts (d + 1) 0 0 2 [some (.ref 159), some (.int p0), some (.int (l2 + 1))] [] (q_setI (q_setI σ 175 k5 l2) 175 k9 0) Q)) ∧ (¬ (q_I (q_setI σ 175 k5 l2) 165 1) ≤ l2 → q_Call G d 0 0 X_M_familyOf [.ref 159, .int l2, .int 3] (q_setI σ 175 k5 l2) (q_ri (fun x14 σ12 => (∃ k16, ((p0 + 6) + l2) = nI k16 ∧ k16 < 1886 ∧ q_At G X_M_starts (d + 1) 0 0 2 [some (.ref 159), some (.int p0), some (.int (l2 + 1))] [] (q_setI σ12 175 k16 x14) Q))))))))) : q_At G X_M_starts (d + 1) 0 0 2 [some (.ref 159), some (.int p0), some (.int l2)] [] σ Q := by
  refine q_iload_n o_M_starts_2 rfl ?_
  refine q_bipush (v := 6) o_M_starts_3 (by decide) ?_
  refine q_icmp_ge o_M_starts_5 (fun c1 => ?_) (fun c1 => ?_)
  · have h2 := h.1 c1
    refine q_iconst (v := 0) o_M_starts_54 (by decide) ?_
    refine q2_istn (ls' := [some (.ref 159), some (.int p0), some (.int 0)]) o_M_starts_55 (Nat.le_of_ble_eq_true rfl) rfl ?_
    exact h2
  · have h3 := h.2 c1
    refine q_aload_n o_M_starts_8 rfl ?_
    refine q2_getR hs o_M_starts_9 f_M_133 rfl (fz_159_24 hs) ?_
    refine q_iload_n o_M_starts_12 rfl ?_
    refine q_iconst (v := 0) o_M_starts_13 (by decide) ?_
    refine q_iadd o_M_starts_14 ?_
    refine q_iload_n o_M_starts_15 rfl ?_
    refine q_iadd o_M_starts_16 ?_
    refine q_iload_n o_M_starts_17 rfl ?_
    obtain ⟨k5, eh4, bh4, h4⟩ := h3
    refine q2_iast hs o_M_starts_18 rfl eh4 bh4 (by decide) ?_
    refine q_aload_n o_M_starts_19 rfl ?_
    refine q2_getR hs o_M_starts_20 f_M_133 rfl (fz_159_24 hs) ?_
    refine q_iload_n o_M_starts_23 rfl ?_
    refine q_bipush (v := 6) o_M_starts_24 (by decide) ?_
    refine q_iadd o_M_starts_26 ?_
    refine q_iload_n o_M_starts_27 rfl ?_
    refine q_iadd o_M_starts_28 ?_
    refine q_iload_n o_M_starts_29 rfl ?_
    refine q_aload_n o_M_starts_30 rfl ?_
    refine q2_M_families hs o_M_starts_31 k_M_309 (Nat.le_of_ble_eq_true rfl) ?_
    refine q_icmp_ge o_M_starts_34 (fun c6 => ?_) (fun c6 => ?_)
    · have h7 := h4.1 c6
      refine q_iconst (v := 0) o_M_starts_46 (by decide) ?_
      obtain ⟨k9, eh8, bh8, h8⟩ := h7
      refine q2_iast hs o_M_starts_47 rfl eh8 bh8 (by decide) ?_
      refine q2_inc (v := (l2 + 1)) (ls' := [some (.ref 159), some (.int p0), some (.int (l2 + 1))]) o_M_starts_48 rfl rfl (Nat.le_of_ble_eq_true rfl) rfl ?_
      refine q_goto o_M_starts_51 ?_
      exact h8
    · have h10 := h4.2 c6
      refine q_aload_n o_M_starts_37 rfl ?_
      refine q_iload_n o_M_starts_38 rfl ?_
      refine q_iconst (v := 3) o_M_starts_39 (by decide) ?_
      refine q2_callVi _ (a := 159) (As := [.int l2, .int 3]) (st := [.int ((p0 + 6) + l2), .ref 175]) hs o_M_starts_40 k_M_313 rfl rfl (Nat.le_of_ble_eq_true rfl) h10 (fun x14 σ12 hs13 h11 => ?_)
      refine q_goto o_M_starts_43 ?_
      obtain ⟨k16, eh15, bh15, h15⟩ := h11
      refine q2_iast hs13 o_M_starts_47 rfl eh15 bh15 (by decide) ?_
      refine q2_inc (v := (l2 + 1)) (ls' := [some (.ref 159), some (.int p0), some (.int (l2 + 1))]) o_M_starts_48 rfl rfl (Nat.le_of_ble_eq_true rfl) rfl ?_
      refine q_goto o_M_starts_51 ?_
      exact h15

set_option maxRecDepth 20000 in
theorem v_M_starts_56 {G : q_G} {d : Nat} {σ : q_S} {Q : Option Value → q_S → Prop} {p0 : Int32} {l2 : Int32}  (hs : q_Sh σ) (h : ((36 ≤ l2 → (∃ k4, (p0 + 48) = nI k4 ∧ k4 < 1886 ∧ (∃ k6, (p0 + 49) = nI k6 ∧ k6 < 1886 ∧ Q none (q_setI (q_setI σ 175 k4 0) 175 k6 0)))) ∧ (¬ 36 ≤ l2 → (∃ k9, (140 + l2) = nI k9 ∧ k9 < 400 ∧ (∃ k11, ((p0 + 12) + l2) = nI k11 ∧ k11 < 1886 ∧ q_At G X_M_starts (d + 1) 0 0 56 [some (.ref 159), some (.int p0), some (.int (l2 + 1))] [] (q_setI σ 175 k11 (q_I σ 165 k9)) Q))))) : q_At G X_M_starts (d + 1) 0 0 56 [some (.ref 159), some (.int p0), some (.int l2)] [] σ Q := by
  refine q_iload_n o_M_starts_56 rfl ?_
  refine q_bipush (v := 36) o_M_starts_57 (by decide) ?_
  refine q_icmp_ge o_M_starts_59 (fun c1 => ?_) (fun c1 => ?_)
  · have h2 := h.1 c1
    refine q_aload_n o_M_starts_89 rfl ?_
    refine q2_getR hs o_M_starts_90 f_M_133 rfl (fz_159_24 hs) ?_
    refine q_iload_n o_M_starts_93 rfl ?_
    refine q_bipush (v := 48) o_M_starts_94 (by decide) ?_
    refine q_iadd o_M_starts_96 ?_
    refine q_iconst (v := 0) o_M_starts_97 (by decide) ?_
    obtain ⟨k4, eh3, bh3, h3⟩ := h2
    refine q2_iast hs o_M_starts_98 rfl eh3 bh3 (by decide) ?_
    refine q_aload_n o_M_starts_99 rfl ?_
    refine q2_getR hs o_M_starts_100 f_M_133 rfl (fz_159_24 hs) ?_
    refine q_iload_n o_M_starts_103 rfl ?_
    refine q_bipush (v := 49) o_M_starts_104 (by decide) ?_
    refine q_iadd o_M_starts_106 ?_
    refine q_iconst (v := 0) o_M_starts_107 (by decide) ?_
    obtain ⟨k6, eh5, bh5, h5⟩ := h3
    refine q2_iast hs o_M_starts_108 rfl eh5 bh5 (by decide) ?_
    exact q_vre o_M_starts_109 rfl h5
  · have h7 := h.2 c1
    refine q_aload_n o_M_starts_62 rfl ?_
    refine q2_getR hs o_M_starts_63 f_M_133 rfl (fz_159_24 hs) ?_
    refine q_iload_n o_M_starts_66 rfl ?_
    refine q_bipush (v := 12) o_M_starts_67 (by decide) ?_
    refine q_iadd o_M_starts_69 ?_
    refine q_iload_n o_M_starts_70 rfl ?_
    refine q_iadd o_M_starts_71 ?_
    refine q_aload_n o_M_starts_72 rfl ?_
    refine q2_getR hs o_M_starts_73 f_M_103 rfl (fz_159_10 hs) ?_
    refine q_sipush (v := 140) o_M_starts_76 (by decide) ?_
    refine q_iload_n o_M_starts_79 rfl ?_
    refine q_iadd o_M_starts_80 ?_
    obtain ⟨k9, eh8, bh8, h8⟩ := h7
    refine q2_iald hs o_M_starts_81 rfl eh8 bh8 (by decide) ?_
    obtain ⟨k11, eh10, bh10, h10⟩ := h8
    refine q2_iast hs o_M_starts_82 rfl eh10 bh10 (by decide) ?_
    refine q2_inc (v := (l2 + 1)) (ls' := [some (.ref 159), some (.int p0), some (.int (l2 + 1))]) o_M_starts_83 rfl rfl (Nat.le_of_ble_eq_true rfl) rfl ?_
    refine q_goto o_M_starts_86 ?_
    exact h10

set_option maxRecDepth 20000 in
theorem v_M_begins_0 {G : q_G} {d : Nat} {σ : q_S} {Q : Option Value → q_S → Prop}   (hs : q_Sh σ) (h : q_Call G d 0 0 X_M_laysNoises [.ref 159] σ (q_rv (fun σ2 => q_Call G d 0 0 X_M_starts [.ref 159, .int 0] σ2 (q_rv (fun σ5 => q_At G X_M_begins (d + 1) 0 0 31 [some (.ref 159), some (.int 0)] [] (q_setI (q_setI (q_setI σ5 175 50 0) 172 0 0) 159 25 0) Q))))) : q_At G X_M_begins (d + 1) 0 0 0 [some (.ref 159), none] [] σ Q := by
  refine q_aload_n o_M_begins_0 rfl ?_
  refine q2_callVv _ (a := 159) (As := []) (st := []) hs o_M_begins_1 k_M_316 rfl rfl (Nat.le_of_ble_eq_true rfl) h (fun σ2 hs3 h1 => ?_)
  refine q_aload_n o_M_begins_4 rfl ?_
  refine q_iconst (v := 0) o_M_begins_5 (by decide) ?_
  refine q2_callVv _ (a := 159) (As := [.int 0]) (st := []) hs3 o_M_begins_6 k_M_319 rfl rfl (Nat.le_of_ble_eq_true rfl) h1 (fun σ5 hs6 h4 => ?_)
  refine q_aload_n o_M_begins_9 rfl ?_
  refine q2_getR hs6 o_M_begins_10 f_M_133 rfl (fz_159_24 hs6) ?_
  refine q_bipush (v := 50) o_M_begins_13 (by decide) ?_
  refine q_iconst (v := 0) o_M_begins_15 (by decide) ?_
  refine q2_iast (i := 50) hs6 o_M_begins_16 rfl rfl (by decide) (by decide) ?_
  refine q_aload_n o_M_begins_17 rfl ?_
  refine q2_getR hs6 o_M_begins_18 f_M_124 rfl (fz_159_21 hs6) ?_
  refine q_iconst (v := 0) o_M_begins_21 (by decide) ?_
  refine q_iconst (v := 0) o_M_begins_22 (by decide) ?_
  refine q2_iast (i := 0) hs6 o_M_begins_23 rfl rfl (by decide) (by decide) ?_
  refine q_aload_n o_M_begins_24 rfl ?_
  refine q_iconst (v := 0) o_M_begins_25 (by decide) ?_
  refine q2_putI hs6 o_M_begins_26 fp_M_322 rfl rfl rfl ?_
  refine q_iconst (v := 0) o_M_begins_29 (by decide) ?_
  refine q2_istn (ls' := [some (.ref 159), some (.int 0)]) o_M_begins_30 (Nat.le_of_ble_eq_true rfl) rfl ?_
  exact h4

set_option maxRecDepth 20000 in
theorem v_M_begins_31 {G : q_G} {d : Nat} {σ : q_S} {Q : Option Value → q_S → Prop} {l1 : Int32}  (hs : q_Sh σ) (h : ((4 ≤ l1 → Q none σ) ∧ (¬ 4 ≤ l1 → (∃ k5, l1 = nI k5 ∧ k5 < 4 ∧ q_At G X_M_begins (d + 1) 0 0 31 [some (.ref 159), some (.int (l1 + 1))] [] (q_setI σ 176 k5 (vp_nar .boolean 0)) Q)))) : q_At G X_M_begins (d + 1) 0 0 31 [some (.ref 159), some (.int l1)] [] σ Q := by
  refine q_iload_n o_M_begins_31 rfl ?_
  refine q_iconst (v := 4) o_M_begins_32 (by decide) ?_
  refine q_icmp_ge o_M_begins_33 (fun c1 => ?_) (fun c1 => ?_)
  · have h2 := h.1 c1
    exact q_vre o_M_begins_49 rfl h2
  · have h3 := h.2 c1
    refine q_aload_n o_M_begins_36 rfl ?_
    refine q2_getR hs o_M_begins_37 f_M_136 rfl (fz_159_26 hs) ?_
    refine q_iload_n o_M_begins_40 rfl ?_
    refine q_iconst (v := 0) o_M_begins_41 (by decide) ?_
    obtain ⟨k5, eh4, bh4, h4⟩ := h3
    refine q2_zast hs o_M_begins_42 rfl eh4 bh4 (by decide) ?_
    refine q2_inc (v := (l1 + 1)) (ls' := [some (.ref 159), some (.int (l1 + 1))]) o_M_begins_43 rfl rfl (Nat.le_of_ble_eq_true rfl) rfl ?_
    refine q_goto o_M_begins_46 ?_
    exact h4

set_option maxRecDepth 20000 in
theorem v_M_keeps_0 {G : q_G} {d : Nat} {σ : q_S} {Q : Option Value → q_S → Prop}   (hs : q_Sh σ) (h : ((¬ (q_I σ 159 25) = 16 → q_Call G d 0 0 X_M_copies [.ref 159, .int 0, .int (82 * (5 + (q_I σ 159 25))), .int 50] σ (q_rv (fun σ4 => Q none (q_setI σ4 159 25 ((q_I σ4 159 25) + 1))))) ∧ ((q_I σ 159 25) = 16 → q_At G X_M_keeps (d + 1) 0 0 11 [some (.ref 159), some (.int 1)] [] σ Q))) : q_At G X_M_keeps (d + 1) 0 0 0 [some (.ref 159), none] [] σ Q := by
  refine q_aload_n o_M_keeps_0 rfl ?_
  refine q2_getI hs o_M_keeps_1 f_M_322 rfl ?_
  refine q_bipush (v := 16) o_M_keeps_4 (by decide) ?_
  refine q_icmp_ne o_M_keeps_6 (fun c1 => ?_) (fun c1 => ?_)
  · have h2 := h.1 c1
    refine q_aload_n o_M_keeps_53 rfl ?_
    refine q_iconst (v := 0) o_M_keeps_54 (by decide) ?_
    refine q_bipush (v := 82) o_M_keeps_55 (by decide) ?_
    refine q_iconst (v := 5) o_M_keeps_57 (by decide) ?_
    refine q_aload_n o_M_keeps_58 rfl ?_
    refine q2_getI hs o_M_keeps_59 f_M_322 rfl ?_
    refine q_iadd o_M_keeps_62 ?_
    refine q_imul o_M_keeps_63 ?_
    refine q_bipush (v := 50) o_M_keeps_64 (by decide) ?_
    refine q2_callVv _ (a := 159) (As := [.int 0, .int (82 * (5 + (q_I σ 159 25))), .int 50]) (st := []) hs o_M_keeps_66 k_M_325 rfl rfl (Nat.le_of_ble_eq_true rfl) h2 (fun σ4 hs5 h3 => ?_)
    refine q_aload_n o_M_keeps_69 rfl ?_
    refine q_dup o_M_keeps_70 rfl ?_
    refine q2_getI hs5 o_M_keeps_71 f_M_322 rfl ?_
    refine q_iconst (v := 1) o_M_keeps_74 (by decide) ?_
    refine q_iadd o_M_keeps_75 ?_
    refine q2_putI hs5 o_M_keeps_76 fp_M_322 rfl rfl rfl ?_
    exact q_vre o_M_keeps_79 rfl h3
  · have h6 := h.2 c1
    refine q_iconst (v := 1) o_M_keeps_9 (by decide) ?_
    refine q2_istn (ls' := [some (.ref 159), some (.int 1)]) o_M_keeps_10 (Nat.le_of_ble_eq_true rfl) rfl ?_
    exact h6

set_option maxRecDepth 20000 in
theorem v_M_keeps_11 {G : q_G} {d : Nat} {σ : q_S} {Q : Option Value → q_S → Prop} {l1 : Int32}  (hs : q_Sh σ) (h : ((16 ≤ l1 → q_Call G d 0 0 X_M_copies [.ref 159, .int 0, .int (82 * (5 + (q_I (q_setI σ 159 25 ((q_I σ 159 25) - 1)) 159 25))), .int 50] (q_setI σ 159 25 ((q_I σ 159 25) - 1)) (q_rv (fun σ4 => Q none (q_setI σ4 159 25 ((q_I σ4 159 25) + 1))))) ∧ (¬ 16 ≤ l1 → q_Call G d 0 0 X_M_copies [.ref 159, .int (82 * (5 + l1)), .int (82 * ((5 + l1) - 1)), .int 50] σ (q_rv (fun σ8 => q_At G X_M_keeps (d + 1) 0 0 11 [some (.ref 159), some (.int (l1 + 1))] [] σ8 Q))))) : q_At G X_M_keeps (d + 1) 0 0 11 [some (.ref 159), some (.int l1)] [] σ Q := by
  refine q_iload_n o_M_keeps_11 rfl ?_
  refine q_bipush (v := 16) o_M_keeps_12 (by decide) ?_
  refine q_icmp_ge o_M_keeps_14 (fun c1 => ?_) (fun c1 => ?_)
  · have h2 := h.1 c1
    refine q_aload_n o_M_keeps_43 rfl ?_
    refine q_dup o_M_keeps_44 rfl ?_
    refine q2_getI hs o_M_keeps_45 f_M_322 rfl ?_
    refine q_iconst (v := 1) o_M_keeps_48 (by decide) ?_
    refine q_isub o_M_keeps_49 ?_
    refine q2_putI hs o_M_keeps_50 fp_M_322 rfl rfl rfl ?_
    refine q_aload_n o_M_keeps_53 rfl ?_
    refine q_iconst (v := 0) o_M_keeps_54 (by decide) ?_
    refine q_bipush (v := 82) o_M_keeps_55 (by decide) ?_
    refine q_iconst (v := 5) o_M_keeps_57 (by decide) ?_
    refine q_aload_n o_M_keeps_58 rfl ?_
    refine q2_getI hs o_M_keeps_59 f_M_322 rfl ?_
    refine q_iadd o_M_keeps_62 ?_
    refine q_imul o_M_keeps_63 ?_
    refine q_bipush (v := 50) o_M_keeps_64 (by decide) ?_
    refine q2_callVv _ (a := 159) (As := [.int 0, .int (82 * (5 + (q_I (q_setI σ 159 25 ((q_I σ 159 25) - 1)) 159 25))), .int 50]) (st := []) hs o_M_keeps_66 k_M_325 rfl rfl (Nat.le_of_ble_eq_true rfl) h2 (fun σ4 hs5 h3 => ?_)
    refine q_aload_n o_M_keeps_69 rfl ?_
    refine q_dup o_M_keeps_70 rfl ?_
    refine q2_getI hs5 o_M_keeps_71 f_M_322 rfl ?_
    refine q_iconst (v := 1) o_M_keeps_74 (by decide) ?_
    refine q_iadd o_M_keeps_75 ?_
    refine q2_putI hs5 o_M_keeps_76 fp_M_322 rfl rfl rfl ?_
    exact q_vre o_M_keeps_79 rfl h3
  · have h6 := h.2 c1
    refine q_aload_n o_M_keeps_17 rfl ?_
    refine q_bipush (v := 82) o_M_keeps_18 (by decide) ?_
    refine q_iconst (v := 5) o_M_keeps_20 (by decide) ?_
    refine q_iload_n o_M_keeps_21 rfl ?_
    refine q_iadd o_M_keeps_22 ?_
    refine q_imul o_M_keeps_23 ?_
    refine q_bipush (v := 82) o_M_keeps_24 (by decide) ?_
    refine q_iconst (v := 5) o_M_keeps_26 (by decide) ?_
    refine q_iload_n o_M_keeps_27 rfl ?_
    refine q_iadd o_M_keeps_28 ?_
    refine q_iconst (v := 1) o_M_keeps_29 (by decide) ?_
    refine q_isub o_M_keeps_30 ?_
    refine q_imul o_M_keeps_31 ?_
    refine q_bipush (v := 50) o_M_keeps_32 (by decide) ?_
    refine q2_callVv _ (a := 159) (As := [.int (82 * (5 + l1)), .int (82 * ((5 + l1) - 1)), .int 50]) (st := []) hs o_M_keeps_34 k_M_325 rfl rfl (Nat.le_of_ble_eq_true rfl) h6 (fun σ8 hs9 h7 => ?_)
    refine q2_inc (v := (l1 + 1)) (ls' := [some (.ref 159), some (.int (l1 + 1))]) o_M_keeps_37 rfl rfl (Nat.le_of_ble_eq_true rfl) rfl ?_
    refine q_goto o_M_keeps_40 ?_
    exact h7

set_option maxRecDepth 20000 in
theorem v_M_familyOf_0 {G : q_G} {d : Nat} {σ : q_S} {Q : Option Value → q_S → Prop} {p0 : Int32} {p1 : Int32}  (hs : q_Sh σ) (h : (∃ k2, ((44 + (4 * p0)) + p1) = nI k2 ∧ k2 < 400 ∧ Q (some (.int (q_I σ 165 k2))) σ)) : q_At G X_M_familyOf d 0 0 0 [some (.ref 159), some (.int p0), some (.int p1)] [] σ Q := by
  refine q_aload_n o_M_familyOf_0 rfl ?_
  refine q2_getR hs o_M_familyOf_1 f_M_103 rfl (fz_159_10 hs) ?_
  refine q_bipush (v := 44) o_M_familyOf_4 (by decide) ?_
  refine q_iconst (v := 4) o_M_familyOf_6 (by decide) ?_
  refine q_iload_n o_M_familyOf_7 rfl ?_
  refine q_imul o_M_familyOf_8 ?_
  refine q_iadd o_M_familyOf_9 ?_
  refine q_iload_n o_M_familyOf_10 rfl ?_
  refine q_iadd o_M_familyOf_11 ?_
  obtain ⟨k2, eh1, bh1, h1⟩ := h
  refine q2_iald hs o_M_familyOf_12 rfl eh1 bh1 (by decide) ?_
  exact q_ire o_M_familyOf_13 rfl h1

set_option maxRecDepth 20000 in
theorem v_M_isHouse_0 {G : q_G} {d : Nat} {σ : q_S} {Q : Option Value → q_S → Prop} {p0 : Int32}  (hs : q_Sh σ) (h : ((p0 < 0 → Q (some (.int 0)) σ) ∧ (¬ p0 < 0 → (narrow .boolean (.int (if (q_I σ 165 0) ≤ p0 then (0 : Int32) else (1 : Int32))) = .int (if (q_I σ 165 0) ≤ p0 then (0 : Int32) else (1 : Int32)) ∧ Q (some (.int (if (q_I σ 165 0) ≤ p0 then (0 : Int32) else (1 : Int32)))) σ)))) : q_At G X_M_isHouse (d + 1) 0 0 0 [some (.ref 159), some (.int p0)] [] σ Q := by
  refine q_iload_n o_M_isHouse_0 rfl ?_
  refine q_if_lt o_M_isHouse_1 (fun c1 => ?_) (fun c1 => ?_)
  · have h2 := h.1 c1
    refine q_iconst (v := 0) o_M_isHouse_16 (by decide) ?_
    exact q_zre o_M_isHouse_17 rfl rfl h2
  · have h3 := h.2 c1
    refine q_iload_n o_M_isHouse_4 rfl ?_
    refine q_aload_n o_M_isHouse_5 rfl ?_
    refine q2_M_houses hs o_M_isHouse_6 k_M_329 (Nat.le_of_ble_eq_true rfl) ?_
    have hJ : ∀ vJ : Int32, vJ = (if (q_I σ 165 0) ≤ p0 then (0 : Int32) else (1 : Int32)) → q_At G X_M_isHouse (d + 1) 0 0 17 [some (.ref 159), some (.int p0)] [.int vJ] σ Q := by
      intro vJ eJ
      rw [eJ]
      clear eJ vJ
      exact q_zre o_M_isHouse_17 rfl h3.1 h3.2
    refine q_icmp_ge o_M_isHouse_9 (fun c4 => ?_) (fun c4 => ?_)
    · refine q_iconst (v := 0) o_M_isHouse_16 (by decide) ?_
      exact hJ _ (Eq.symm (if_pos c4))
    · refine q_iconst (v := 1) o_M_isHouse_12 (by decide) ?_
      refine q_goto o_M_isHouse_13 ?_
      exact hJ _ (Eq.symm (if_neg c4))

set_option maxRecDepth 20000 in
theorem v_M_isFamily_0 {G : q_G} {d : Nat} {σ : q_S} {Q : Option Value → q_S → Prop} {p0 : Int32}  (hs : q_Sh σ) (h : ((p0 < 0 → Q (some (.int 0)) σ) ∧ (¬ p0 < 0 → (narrow .boolean (.int (if (q_I σ 165 1) ≤ p0 then (0 : Int32) else (1 : Int32))) = .int (if (q_I σ 165 1) ≤ p0 then (0 : Int32) else (1 : Int32)) ∧ Q (some (.int (if (q_I σ 165 1) ≤ p0 then (0 : Int32) else (1 : Int32)))) σ)))) : q_At G X_M_isFamily (d + 1) 0 0 0 [some (.ref 159), some (.int p0)] [] σ Q := by
  refine q_iload_n o_M_isFamily_0 rfl ?_
  refine q_if_lt o_M_isFamily_1 (fun c1 => ?_) (fun c1 => ?_)
  · have h2 := h.1 c1
    refine q_iconst (v := 0) o_M_isFamily_16 (by decide) ?_
    exact q_zre o_M_isFamily_17 rfl rfl h2
  · have h3 := h.2 c1
    refine q_iload_n o_M_isFamily_4 rfl ?_
    refine q_aload_n o_M_isFamily_5 rfl ?_
    refine q2_M_families hs o_M_isFamily_6 k_M_309 (Nat.le_of_ble_eq_true rfl) ?_
    have hJ : ∀ vJ : Int32, vJ = (if (q_I σ 165 1) ≤ p0 then (0 : Int32) else (1 : Int32)) → q_At G X_M_isFamily (d + 1) 0 0 17 [some (.ref 159), some (.int p0)] [.int vJ] σ Q := by
      intro vJ eJ
      rw [eJ]
      clear eJ vJ
      exact q_zre o_M_isFamily_17 rfl h3.1 h3.2
    refine q_icmp_ge o_M_isFamily_9 (fun c4 => ?_) (fun c4 => ?_)
    · refine q_iconst (v := 0) o_M_isFamily_16 (by decide) ?_
      exact hJ _ (Eq.symm (if_pos c4))
    · refine q_iconst (v := 1) o_M_isFamily_12 (by decide) ?_
      refine q_goto o_M_isFamily_13 ?_
      exact hJ _ (Eq.symm (if_neg c4))

set_option maxRecDepth 20000 in
theorem v_M_areTwo_0 {G : q_G} {d : Nat} {σ : q_S} {Q : Option Value → q_S → Prop} {p0 : Int32} {p1 : Int32}  (hs : q_Sh σ) (h : q_Call G d 0 0 X_M_isFamily [.ref 159, .int p0] σ (q_ri (fun x4 σ2 => ((x4 = 0 → Q (some (.int 0)) σ2) ∧ (¬ x4 = 0 → q_Call G d 0 0 X_M_isFamily [.ref 159, .int p1] σ2 (q_ri (fun x11 σ9 => (narrow .boolean (.int (if x11 = 0 then (0 : Int32) else (if p0 = p1 then (0 : Int32) else (1 : Int32)))) = .int (if x11 = 0 then (0 : Int32) else (if p0 = p1 then (0 : Int32) else (1 : Int32))) ∧ Q (some (.int (if x11 = 0 then (0 : Int32) else (if p0 = p1 then (0 : Int32) else (1 : Int32))))) σ9)))))))) : q_At G X_M_areTwo (d + 1) 0 0 0 [some (.ref 159), some (.int p0), some (.int p1)] [] σ Q := by
  refine q_aload_n o_M_areTwo_0 rfl ?_
  refine q_iload_n o_M_areTwo_1 rfl ?_
  refine q2_callVi _ (a := 159) (As := [.int p0]) (st := []) hs o_M_areTwo_2 k_M_332 rfl rfl (Nat.le_of_ble_eq_true rfl) h (fun x4 σ2 hs3 h1 => ?_)
  refine q_if_eq o_M_areTwo_5 (fun c5 => ?_) (fun c5 => ?_)
  · have h6 := h1.1 c5
    refine q_iconst (v := 0) o_M_areTwo_25 (by decide) ?_
    exact q_zre o_M_areTwo_26 rfl rfl h6
  · have h7 := h1.2 c5
    refine q_aload_n o_M_areTwo_8 rfl ?_
    refine q_iload_n o_M_areTwo_9 rfl ?_
    refine q2_callVi _ (a := 159) (As := [.int p1]) (st := []) hs3 o_M_areTwo_10 k_M_332 rfl rfl (Nat.le_of_ble_eq_true rfl) h7 (fun x11 σ9 hs10 h8 => ?_)
    have hJ : ∀ vJ : Int32, vJ = (if x11 = 0 then (0 : Int32) else (if p0 = p1 then (0 : Int32) else (1 : Int32))) → q_At G X_M_areTwo (d + 1) 0 0 26 [some (.ref 159), some (.int p0), some (.int p1)] [.int vJ] σ9 Q := by
      intro vJ eJ
      rw [eJ]
      clear eJ vJ
      exact q_zre o_M_areTwo_26 rfl h8.1 h8.2
    refine q_if_eq o_M_areTwo_13 (fun c12 => ?_) (fun c12 => ?_)
    · refine q_iconst (v := 0) o_M_areTwo_25 (by decide) ?_
      exact hJ _ (Eq.symm (if_pos c12))
    · refine q_iload_n o_M_areTwo_16 rfl ?_
      refine q_iload_n o_M_areTwo_17 rfl ?_
      refine q_icmp_eq o_M_areTwo_18 (fun c13 => ?_) (fun c13 => ?_)
      · refine q_iconst (v := 0) o_M_areTwo_25 (by decide) ?_
        exact hJ _ (Eq.symm ((if_neg c12).trans (if_pos c13)))
      · refine q_iconst (v := 1) o_M_areTwo_21 (by decide) ?_
        refine q_goto o_M_areTwo_22 ?_
        exact hJ _ (Eq.symm ((if_neg c12).trans (if_neg c13)))

set_option maxRecDepth 20000 in
theorem v_M_loudOf_0 {G : q_G} {d : Nat} {σ : q_S} {Q : Option Value → q_S → Prop} {p0 : Int32}  (hs : q_Sh σ) (h : q_Call G d 0 0 X_M_familyOf [.ref 159, .int p0, .int 1] σ (q_ri (fun x4 σ2 => q_Call G d 0 0 X_M_familyOf [.ref 159, .int p0, .int 0] σ2 (q_ri (fun x8 σ6 => Q (some (.int (x4 * (if x8 = 1 then (2 : Int32) else (1 : Int32))))) σ6))))) : q_At G X_M_loudOf (d + 1) 0 0 0 [some (.ref 159), some (.int p0)] [] σ Q := by
  refine q_aload_n o_M_loudOf_0 rfl ?_
  refine q_iload_n o_M_loudOf_1 rfl ?_
  refine q_iconst (v := 1) o_M_loudOf_2 (by decide) ?_
  refine q2_callVi _ (a := 159) (As := [.int p0, .int 1]) (st := []) hs o_M_loudOf_3 k_M_313 rfl rfl (Nat.le_of_ble_eq_true rfl) h (fun x4 σ2 hs3 h1 => ?_)
  refine q_aload_n o_M_loudOf_6 rfl ?_
  refine q_iload_n o_M_loudOf_7 rfl ?_
  refine q_iconst (v := 0) o_M_loudOf_8 (by decide) ?_
  refine q2_callVi _ (a := 159) (As := [.int p0, .int 0]) (st := [.int x4]) hs3 o_M_loudOf_9 k_M_313 rfl rfl (Nat.le_of_ble_eq_true rfl) h1 (fun x8 σ6 hs7 h5 => ?_)
  refine q_iconst (v := 1) o_M_loudOf_12 (by decide) ?_
  have hJ : ∀ vJ : Int32, vJ = (if x8 = 1 then (2 : Int32) else (1 : Int32)) → q_At G X_M_loudOf (d + 1) 0 0 21 [some (.ref 159), some (.int p0)] [.int vJ, .int x4] σ6 Q := by
    intro vJ eJ
    rw [eJ]
    clear eJ vJ
    refine q_imul o_M_loudOf_21 ?_
    exact q_ire o_M_loudOf_22 rfl h5
  refine q_icmp_ne o_M_loudOf_13 (fun c9 => ?_) (fun c9 => ?_)
  · refine q_iconst (v := 1) o_M_loudOf_20 (by decide) ?_
    exact hJ _ (Eq.symm (if_neg c9))
  · refine q_iconst (v := 2) o_M_loudOf_16 (by decide) ?_
    refine q_goto o_M_loudOf_17 ?_
    exact hJ _ (Eq.symm (if_pos c9))

set_option maxRecDepth 20000 in
theorem v_M_hearingOf_0 {G : q_G} {d : Nat} {σ : q_S} {Q : Option Value → q_S → Prop} {p0 : Int32}  (hs : q_Sh σ) (h : q_Call G d 0 0 X_M_familyOf [.ref 159, .int p0, .int 0] σ (q_ri (fun x4 σ2 => ((¬ x4 = 2 → q_Call G d 0 0 X_M_familyOf [.ref 159, .int p0, .int 2] σ2 (q_ri (fun x10 σ8 => Q (some (.int x10)) σ8))) ∧ (x4 = 2 → Q (some (.int 0)) σ2))))) : q_At G X_M_hearingOf (d + 1) 0 0 0 [some (.ref 159), some (.int p0)] [] σ Q := by
  refine q_aload_n o_M_hearingOf_0 rfl ?_
  refine q_iload_n o_M_hearingOf_1 rfl ?_
  refine q_iconst (v := 0) o_M_hearingOf_2 (by decide) ?_
  refine q2_callVi _ (a := 159) (As := [.int p0, .int 0]) (st := []) hs o_M_hearingOf_3 k_M_313 rfl rfl (Nat.le_of_ble_eq_true rfl) h (fun x4 σ2 hs3 h1 => ?_)
  refine q_iconst (v := 2) o_M_hearingOf_6 (by decide) ?_
  refine q_icmp_ne o_M_hearingOf_7 (fun c5 => ?_) (fun c5 => ?_)
  · have h6 := h1.1 c5
    refine q_aload_n o_M_hearingOf_14 rfl ?_
    refine q_iload_n o_M_hearingOf_15 rfl ?_
    refine q_iconst (v := 2) o_M_hearingOf_16 (by decide) ?_
    refine q2_callVi _ (a := 159) (As := [.int p0, .int 2]) (st := []) hs3 o_M_hearingOf_17 k_M_313 rfl rfl (Nat.le_of_ble_eq_true rfl) h6 (fun x10 σ8 hs9 h7 => ?_)
    exact q_ire o_M_hearingOf_20 rfl h7
  · have h11 := h1.2 c5
    refine q_iconst (v := 0) o_M_hearingOf_10 (by decide) ?_
    refine q_goto o_M_hearingOf_11 ?_
    exact q_ire o_M_hearingOf_20 rfl h11

set_option maxRecDepth 20000 in
theorem v_M_laysNoises_0 {G : q_G} {d : Nat} {σ : q_S} {Q : Option Value → q_S → Prop}   (hs : q_Sh σ) (h : q_At G X_M_laysNoises (d + 1) 0 0 2 [some (.ref 159), some (.int 0), none, none, none] [] σ Q) : q_At G X_M_laysNoises (d + 1) 0 0 0 [some (.ref 159), none, none, none, none] [] σ Q := by
  refine q_iconst (v := 0) o_M_laysNoises_0 (by decide) ?_
  refine q2_istn (ls' := [some (.ref 159), some (.int 0), none, none, none]) o_M_laysNoises_1 (Nat.le_of_ble_eq_true rfl) rfl ?_
  exact h

set_option maxRecDepth 20000 in
theorem v_M_laysNoises_2 {G : q_G} {d : Nat} {σ : q_S} {Q : Option Value → q_S → Prop} {l1 : Int32}  (hs : q_Sh σ) (h : ((360 ≤ l1 → Q none σ) ∧ (¬ 360 ≤ l1 → (((q_I σ 165 1) ≤ (l1 / 60) → q_At G X_M_laysNoises (d + 1) 0 0 2 [some (.ref 159), some (.int (l1 + 1)), none, none, none] [] σ Q) ∧ (¬ (q_I σ 165 1) ≤ (l1 / 60) → (((q_I σ 165 1) ≤ ((l1 / 10) - (l1 / 10) / 6 * 6) → q_At G X_M_laysNoises (d + 1) 0 0 2 [some (.ref 159), some (.int (l1 + 1)), none, none, none] [] σ Q) ∧ (¬ (q_I σ 165 1) ≤ ((l1 / 10) - (l1 / 10) / 6 * 6) → q_Call G d 0 0 X_M_loudOf [.ref 159, .int ((l1 / 10) - (l1 / 10) / 6 * 6)] σ (q_ri (fun x13 σ11 => q_Call G d 0 0 X_M_hearingOf [.ref 159, .int (l1 / 60)] (q_setI σ11 173 0 x13) (q_ri (fun x19 σ17 => ((0 ≤ (q_I (q_setI (q_setI σ17 173 1 x19) 173 2 (l1 - l1 / 10 * 10)) 165 5) → q_Call G d 0 0 X_M_worthAt [.ref 159, .int (q_I (q_setI (q_setI σ17 173 1 x19) 173 2 (l1 - l1 / 10 * 10)) 165 5)] (q_setI (q_setI σ17 173 1 x19) 173 2 (l1 - l1 / 10 * 10)) (q_ri (fun x33 σ31 => (∃ k37, l1 = nI k37 ∧ k37 < 360 ∧ q_At G X_M_laysNoises (d + 1) 0 0 2 [some (.ref 159), some (.int (l1 + 1)), none, none, none] [] (q_setI σ31 177 k37 (if 0 ≤ x33 then (if x33 ≤ 99 then x33 else (99 : Int32)) else (0 : Int32))) Q)))) ∧ (¬ 0 ≤ (q_I (q_setI (q_setI σ17 173 1 x19) 173 2 (l1 - l1 / 10 * 10)) 165 5) → (∃ k48, l1 = nI k48 ∧ k48 < 360 ∧ q_At G X_M_laysNoises (d + 1) 0 0 2 [some (.ref 159), some (.int (l1 + 1)), none, none, none] [] (q_setI (q_setI (q_setI σ17 173 1 x19) 173 2 (l1 - l1 / 10 * 10)) 177 k48 (if 0 ≤ (((q_I (q_setI (q_setI σ17 173 1 x19) 173 2 (l1 - l1 / 10 * 10)) 173 0) + (q_I (q_setI (q_setI σ17 173 1 x19) 173 2 (l1 - l1 / 10 * 10)) 173 1)) - (q_I (q_setI (q_setI σ17 173 1 x19) 173 2 (l1 - l1 / 10 * 10)) 173 2)) then (if (((q_I (q_setI (q_setI σ17 173 1 x19) 173 2 (l1 - l1 / 10 * 10)) 173 0) + (q_I (q_setI (q_setI σ17 173 1 x19) 173 2 (l1 - l1 / 10 * 10)) 173 1)) - (q_I (q_setI (q_setI σ17 173 1 x19) 173 2 (l1 - l1 / 10 * 10)) 173 2)) ≤ 99 then (((q_I (q_setI (q_setI σ17 173 1 x19) 173 2 (l1 - l1 / 10 * 10)) 173 0) + (q_I (q_setI (q_setI σ17 173 1 x19) 173 2 (l1 - l1 / 10 * 10)) 173 1)) - (q_I (q_setI (q_setI σ17 173 1 x19) 173 2 (l1 - l1 / 10 * 10)) 173 2)) else (99 : Int32)) else (0 : Int32))) Q)))))))))))))) : q_At G X_M_laysNoises (d + 1) 0 0 2 [some (.ref 159), some (.int l1), none, none, none] [] σ Q := by
  refine q_iload_n o_M_laysNoises_2 rfl ?_
  refine q_sipush (v := 360) o_M_laysNoises_3 (by decide) ?_
  refine q_icmp_ge o_M_laysNoises_6 (fun c1 => ?_) (fun c1 => ?_)
  · have h2 := h.1 c1
    exact q_vre o_M_laysNoises_149 rfl h2
  · have h3 := h.2 c1
    refine q_iload_n o_M_laysNoises_9 rfl ?_
    refine q_bipush (v := 60) o_M_laysNoises_10 (by decide) ?_
    refine q_idiv o_M_laysNoises_12 (by decide) ?_
    refine q2_istn (ls' := [some (.ref 159), some (.int l1), some (.int (l1 / 60)), none, none]) o_M_laysNoises_13 (Nat.le_of_ble_eq_true rfl) rfl ?_
    refine q_iload_n o_M_laysNoises_14 rfl ?_
    refine q_bipush (v := 10) o_M_laysNoises_15 (by decide) ?_
    refine q_idiv o_M_laysNoises_17 (by decide) ?_
    refine q_bipush (v := 6) o_M_laysNoises_18 (by decide) ?_
    refine q_irem o_M_laysNoises_20 (by decide) ?_
    refine q2_istn (ls' := [some (.ref 159), some (.int l1), some (.int (l1 / 60)), some (.int ((l1 / 10) - (l1 / 10) / 6 * 6)), none]) o_M_laysNoises_21 (Nat.le_of_ble_eq_true rfl) rfl ?_
    refine q_iload_n o_M_laysNoises_22 rfl ?_
    refine q_aload_n o_M_laysNoises_23 rfl ?_
    refine q2_M_families hs o_M_laysNoises_24 k_M_309 (Nat.le_of_ble_eq_true rfl) ?_
    refine q_icmp_ge o_M_laysNoises_27 (fun c4 => ?_) (fun c4 => ?_)
    · have h5 := h3.1 c4
      refine q2_inc (v := (l1 + 1)) (ls' := [some (.ref 159), some (.int (l1 + 1)), some (.int (l1 / 60)), some (.int ((l1 / 10) - (l1 / 10) / 6 * 6)), none]) o_M_laysNoises_143 rfl rfl (Nat.le_of_ble_eq_true rfl) rfl ?_
      refine q_goto o_M_laysNoises_146 ?_
      exact q_weak (ls' := [some (.ref 159), some (.int (l1 + 1)), none, none, none]) (And.intro rfl (And.intro rfl trivial)) h5
    · have h6 := h3.2 c4
      refine q_iload_n o_M_laysNoises_30 rfl ?_
      refine q_aload_n o_M_laysNoises_31 rfl ?_
      refine q2_M_families hs o_M_laysNoises_32 k_M_309 (Nat.le_of_ble_eq_true rfl) ?_
      refine q_icmp_ge o_M_laysNoises_35 (fun c7 => ?_) (fun c7 => ?_)
      · have h8 := h6.1 c7
        refine q2_inc (v := (l1 + 1)) (ls' := [some (.ref 159), some (.int (l1 + 1)), some (.int (l1 / 60)), some (.int ((l1 / 10) - (l1 / 10) / 6 * 6)), none]) o_M_laysNoises_143 rfl rfl (Nat.le_of_ble_eq_true rfl) rfl ?_
        refine q_goto o_M_laysNoises_146 ?_
        exact q_weak (ls' := [some (.ref 159), some (.int (l1 + 1)), none, none, none]) (And.intro rfl (And.intro rfl trivial)) h8
      · have h9 := h6.2 c7
        refine q_aload_n o_M_laysNoises_38 rfl ?_
        refine q2_getR hs o_M_laysNoises_39 f_M_127 rfl (fz_159_22 hs) ?_
        refine q_iconst (v := 0) o_M_laysNoises_42 (by decide) ?_
        refine q_aload_n o_M_laysNoises_43 rfl ?_
        refine q_iload_n o_M_laysNoises_44 rfl ?_
        refine q2_callVi _ (a := 159) (As := [.int ((l1 / 10) - (l1 / 10) / 6 * 6)]) (st := [.int 0, .ref 173]) hs o_M_laysNoises_45 k_M_335 rfl rfl (Nat.le_of_ble_eq_true rfl) h9 (fun x13 σ11 hs12 h10 => ?_)
        refine q2_iast (i := 0) hs12 o_M_laysNoises_48 rfl rfl (by decide) (by decide) ?_
        refine q_aload_n o_M_laysNoises_49 rfl ?_
        refine q2_getR hs12 o_M_laysNoises_50 f_M_127 rfl (fz_159_22 hs12) ?_
        refine q_iconst (v := 1) o_M_laysNoises_53 (by decide) ?_
        refine q_aload_n o_M_laysNoises_54 rfl ?_
        refine q_iload_n o_M_laysNoises_55 rfl ?_
        refine q2_callVi _ (a := 159) (As := [.int (l1 / 60)]) (st := [.int 1, .ref 173]) hs12 o_M_laysNoises_56 k_M_338 rfl rfl (Nat.le_of_ble_eq_true rfl) h10 (fun x19 σ17 hs18 h16 => ?_)
        refine q2_iast (i := 1) hs18 o_M_laysNoises_59 rfl rfl (by decide) (by decide) ?_
        refine q_aload_n o_M_laysNoises_60 rfl ?_
        refine q2_getR hs18 o_M_laysNoises_61 f_M_127 rfl (fz_159_22 hs18) ?_
        refine q_iconst (v := 2) o_M_laysNoises_64 (by decide) ?_
        refine q_iload_n o_M_laysNoises_65 rfl ?_
        refine q_bipush (v := 10) o_M_laysNoises_66 (by decide) ?_
        refine q_irem o_M_laysNoises_68 (by decide) ?_
        refine q2_iast (i := 2) hs18 o_M_laysNoises_69 rfl rfl (by decide) (by decide) ?_
        refine q_aload_n o_M_laysNoises_70 rfl ?_
        refine q2_getR hs18 o_M_laysNoises_71 f_M_103 rfl (fz_159_10 hs18) ?_
        refine q_iconst (v := 5) o_M_laysNoises_74 (by decide) ?_
        refine q2_iald (i := 5) hs18 o_M_laysNoises_75 rfl rfl (by decide) (by decide) ?_
        refine q_if_ge o_M_laysNoises_76 (fun c26 => ?_) (fun c26 => ?_)
        · have h27 := h16.1 c26
          refine q_aload_n o_M_laysNoises_102 rfl ?_
          refine q_aload_n o_M_laysNoises_103 rfl ?_
          refine q2_getR hs18 o_M_laysNoises_104 f_M_103 rfl (fz_159_10 hs18) ?_
          refine q_iconst (v := 5) o_M_laysNoises_107 (by decide) ?_
          refine q2_iald (i := 5) hs18 o_M_laysNoises_108 rfl rfl (by decide) (by decide) ?_
          refine q2_callVi _ (a := 159) (As := [.int (q_I (q_setI (q_setI σ17 173 1 x19) 173 2 (l1 - l1 / 10 * 10)) 165 5)]) (st := []) hs18 o_M_laysNoises_109 k_M_341 rfl rfl (Nat.le_of_ble_eq_true rfl) h27 (fun x33 σ31 hs32 h30 => ?_)
          refine q2_ist (ls' := [some (.ref 159), some (.int l1), some (.int (l1 / 60)), some (.int ((l1 / 10) - (l1 / 10) / 6 * 6)), some (.int x33)]) o_M_laysNoises_112 (Nat.le_of_ble_eq_true rfl) rfl ?_
          refine q_aload_n o_M_laysNoises_114 rfl ?_
          refine q2_getR hs32 o_M_laysNoises_115 f_M_140 rfl (fz_159_27 hs32) ?_
          refine q_iload_n o_M_laysNoises_118 rfl ?_
          refine q_iload o_M_laysNoises_119 rfl ?_
          have hJ : ∀ vJ : Int32, vJ = (if 0 ≤ x33 then (if x33 ≤ 99 then x33 else (99 : Int32)) else (0 : Int32)) → q_At G X_M_laysNoises (d + 1) 0 0 142 [some (.ref 159), some (.int l1), some (.int (l1 / 60)), some (.int ((l1 / 10) - (l1 / 10) / 6 * 6)), some (.int x33)] [.int vJ, .int l1, .ref 177] σ31 Q := by
            intro vJ eJ
            rw [eJ]
            clear eJ vJ
            obtain ⟨k37, eh36, bh36, h36⟩ := h30
            refine q2_iast hs32 o_M_laysNoises_142 rfl eh36 bh36 (by decide) ?_
            refine q2_inc (v := (l1 + 1)) (ls' := [some (.ref 159), some (.int (l1 + 1)), some (.int (l1 / 60)), some (.int ((l1 / 10) - (l1 / 10) / 6 * 6)), some (.int x33)]) o_M_laysNoises_143 rfl rfl (Nat.le_of_ble_eq_true rfl) rfl ?_
            refine q_goto o_M_laysNoises_146 ?_
            exact q_weak (ls' := [some (.ref 159), some (.int (l1 + 1)), none, none, none]) (And.intro rfl (And.intro rfl trivial)) h36
          refine q_if_ge o_M_laysNoises_121 (fun c34 => ?_) (fun c34 => ?_)
          · refine q_iload o_M_laysNoises_128 rfl ?_
            refine q_bipush (v := 99) o_M_laysNoises_130 (by decide) ?_
            refine q_icmp_le o_M_laysNoises_132 (fun c35 => ?_) (fun c35 => ?_)
            · refine q_iload o_M_laysNoises_140 rfl ?_
              exact hJ _ (Eq.symm ((if_pos c34).trans (if_pos c35)))
            · refine q_bipush (v := 99) o_M_laysNoises_135 (by decide) ?_
              refine q_goto o_M_laysNoises_137 ?_
              exact hJ _ (Eq.symm ((if_pos c34).trans (if_neg c35)))
          · refine q_iconst (v := 0) o_M_laysNoises_124 (by decide) ?_
            refine q_goto o_M_laysNoises_125 ?_
            exact hJ _ (Eq.symm (if_neg c34))
        · have h38 := h16.2 c26
          refine q_aload_n o_M_laysNoises_79 rfl ?_
          refine q2_getR hs18 o_M_laysNoises_80 f_M_127 rfl (fz_159_22 hs18) ?_
          refine q_iconst (v := 0) o_M_laysNoises_83 (by decide) ?_
          refine q2_iald (i := 0) hs18 o_M_laysNoises_84 rfl rfl (by decide) (by decide) ?_
          refine q_aload_n o_M_laysNoises_85 rfl ?_
          refine q2_getR hs18 o_M_laysNoises_86 f_M_127 rfl (fz_159_22 hs18) ?_
          refine q_iconst (v := 1) o_M_laysNoises_89 (by decide) ?_
          refine q2_iald (i := 1) hs18 o_M_laysNoises_90 rfl rfl (by decide) (by decide) ?_
          refine q_iadd o_M_laysNoises_91 ?_
          refine q_aload_n o_M_laysNoises_92 rfl ?_
          refine q2_getR hs18 o_M_laysNoises_93 f_M_127 rfl (fz_159_22 hs18) ?_
          refine q_iconst (v := 2) o_M_laysNoises_96 (by decide) ?_
          refine q2_iald (i := 2) hs18 o_M_laysNoises_97 rfl rfl (by decide) (by decide) ?_
          refine q_isub o_M_laysNoises_98 ?_
          refine q_goto o_M_laysNoises_99 ?_
          refine q2_ist (ls' := [some (.ref 159), some (.int l1), some (.int (l1 / 60)), some (.int ((l1 / 10) - (l1 / 10) / 6 * 6)), some (.int (((q_I (q_setI (q_setI σ17 173 1 x19) 173 2 (l1 - l1 / 10 * 10)) 173 0) + (q_I (q_setI (q_setI σ17 173 1 x19) 173 2 (l1 - l1 / 10 * 10)) 173 1)) - (q_I (q_setI (q_setI σ17 173 1 x19) 173 2 (l1 - l1 / 10 * 10)) 173 2)))]) o_M_laysNoises_112 (Nat.le_of_ble_eq_true rfl) rfl ?_
          refine q_aload_n o_M_laysNoises_114 rfl ?_
          refine q2_getR hs18 o_M_laysNoises_115 f_M_140 rfl (fz_159_27 hs18) ?_
          refine q_iload_n o_M_laysNoises_118 rfl ?_
          refine q_iload o_M_laysNoises_119 rfl ?_
          have hJ : ∀ vJ : Int32, vJ = (if 0 ≤ (((q_I (q_setI (q_setI σ17 173 1 x19) 173 2 (l1 - l1 / 10 * 10)) 173 0) + (q_I (q_setI (q_setI σ17 173 1 x19) 173 2 (l1 - l1 / 10 * 10)) 173 1)) - (q_I (q_setI (q_setI σ17 173 1 x19) 173 2 (l1 - l1 / 10 * 10)) 173 2)) then (if (((q_I (q_setI (q_setI σ17 173 1 x19) 173 2 (l1 - l1 / 10 * 10)) 173 0) + (q_I (q_setI (q_setI σ17 173 1 x19) 173 2 (l1 - l1 / 10 * 10)) 173 1)) - (q_I (q_setI (q_setI σ17 173 1 x19) 173 2 (l1 - l1 / 10 * 10)) 173 2)) ≤ 99 then (((q_I (q_setI (q_setI σ17 173 1 x19) 173 2 (l1 - l1 / 10 * 10)) 173 0) + (q_I (q_setI (q_setI σ17 173 1 x19) 173 2 (l1 - l1 / 10 * 10)) 173 1)) - (q_I (q_setI (q_setI σ17 173 1 x19) 173 2 (l1 - l1 / 10 * 10)) 173 2)) else (99 : Int32)) else (0 : Int32)) → q_At G X_M_laysNoises (d + 1) 0 0 142 [some (.ref 159), some (.int l1), some (.int (l1 / 60)), some (.int ((l1 / 10) - (l1 / 10) / 6 * 6)), some (.int (((q_I (q_setI (q_setI σ17 173 1 x19) 173 2 (l1 - l1 / 10 * 10)) 173 0) + (q_I (q_setI (q_setI σ17 173 1 x19) 173 2 (l1 - l1 / 10 * 10)) 173 1)) - (q_I (q_setI (q_setI σ17 173 1 x19) 173 2 (l1 - l1 / 10 * 10)) 173 2)))] [.int vJ, .int l1, .ref 177] (q_setI (q_setI σ17 173 1 x19) 173 2 (l1 - l1 / 10 * 10)) Q := by
            intro vJ eJ
            rw [eJ]
            clear eJ vJ
            obtain ⟨k48, eh47, bh47, h47⟩ := h38
            refine q2_iast hs18 o_M_laysNoises_142 rfl eh47 bh47 (by decide) ?_
            refine q2_inc (v := (l1 + 1)) (ls' := [some (.ref 159), some (.int (l1 + 1)), some (.int (l1 / 60)), some (.int ((l1 / 10) - (l1 / 10) / 6 * 6)), some (.int (((q_I (q_setI (q_setI σ17 173 1 x19) 173 2 (l1 - l1 / 10 * 10)) 173 0) + (q_I (q_setI (q_setI σ17 173 1 x19) 173 2 (l1 - l1 / 10 * 10)) 173 1)) - (q_I (q_setI (q_setI σ17 173 1 x19) 173 2 (l1 - l1 / 10 * 10)) 173 2)))]) o_M_laysNoises_143 rfl rfl (Nat.le_of_ble_eq_true rfl) rfl ?_
            refine q_goto o_M_laysNoises_146 ?_
            exact q_weak (ls' := [some (.ref 159), some (.int (l1 + 1)), none, none, none]) (And.intro rfl (And.intro rfl trivial)) h47
          refine q_if_ge o_M_laysNoises_121 (fun c45 => ?_) (fun c45 => ?_)
          · refine q_iload o_M_laysNoises_128 rfl ?_
            refine q_bipush (v := 99) o_M_laysNoises_130 (by decide) ?_
            refine q_icmp_le o_M_laysNoises_132 (fun c46 => ?_) (fun c46 => ?_)
            · refine q_iload o_M_laysNoises_140 rfl ?_
              exact hJ _ (Eq.symm ((if_pos c45).trans (if_pos c46)))
            · refine q_bipush (v := 99) o_M_laysNoises_135 (by decide) ?_
              refine q_goto o_M_laysNoises_137 ?_
              exact hJ _ (Eq.symm ((if_pos c45).trans (if_neg c46)))
          · refine q_iconst (v := 0) o_M_laysNoises_124 (by decide) ?_
            refine q_goto o_M_laysNoises_125 ?_
            exact hJ _ (Eq.symm (if_neg c45))

set_option maxRecDepth 20000 in
theorem v_M_wallBy_0 {G : q_G} {d : Nat} {σ : q_S} {Q : Option Value → q_S → Prop} {p0 : Int32} {p1 : Int32} {p2 : Int32}  (hs : q_Sh σ) (h : (∃ k2, ((p0 + 0) + p1) = nI k2 ∧ k2 < 1886 ∧ (∃ k4, ((p0 + 0) + p2) = nI k4 ∧ k4 < 1886 ∧ (∃ k6, ((8 + (6 * (q_I σ 175 k2))) + (q_I σ 175 k4)) = nI k6 ∧ k6 < 400 ∧ Q (some (.int (q_I σ 165 k6))) σ)))) : q_At G X_M_wallBy d 0 0 0 [some (.ref 159), some (.int p0), some (.int p1), some (.int p2)] [] σ Q := by
  refine q_aload_n o_M_wallBy_0 rfl ?_
  refine q2_getR hs o_M_wallBy_1 f_M_103 rfl (fz_159_10 hs) ?_
  refine q_bipush (v := 8) o_M_wallBy_4 (by decide) ?_
  refine q_bipush (v := 6) o_M_wallBy_6 (by decide) ?_
  refine q_aload_n o_M_wallBy_8 rfl ?_
  refine q2_getR hs o_M_wallBy_9 f_M_133 rfl (fz_159_24 hs) ?_
  refine q_iload_n o_M_wallBy_12 rfl ?_
  refine q_iconst (v := 0) o_M_wallBy_13 (by decide) ?_
  refine q_iadd o_M_wallBy_14 ?_
  refine q_iload_n o_M_wallBy_15 rfl ?_
  refine q_iadd o_M_wallBy_16 ?_
  obtain ⟨k2, eh1, bh1, h1⟩ := h
  refine q2_iald hs o_M_wallBy_17 rfl eh1 bh1 (by decide) ?_
  refine q_imul o_M_wallBy_18 ?_
  refine q_iadd o_M_wallBy_19 ?_
  refine q_aload_n o_M_wallBy_20 rfl ?_
  refine q2_getR hs o_M_wallBy_21 f_M_133 rfl (fz_159_24 hs) ?_
  refine q_iload_n o_M_wallBy_24 rfl ?_
  refine q_iconst (v := 0) o_M_wallBy_25 (by decide) ?_
  refine q_iadd o_M_wallBy_26 ?_
  refine q_iload_n o_M_wallBy_27 rfl ?_
  refine q_iadd o_M_wallBy_28 ?_
  obtain ⟨k4, eh3, bh3, h3⟩ := h1
  refine q2_iald hs o_M_wallBy_29 rfl eh3 bh3 (by decide) ?_
  refine q_iadd o_M_wallBy_30 ?_
  obtain ⟨k6, eh5, bh5, h5⟩ := h3
  refine q2_iald hs o_M_wallBy_31 rfl eh5 bh5 (by decide) ?_
  exact q_ire o_M_wallBy_32 rfl h5

set_option maxRecDepth 20000 in
theorem v_M_feltBy_0 {G : q_G} {d : Nat} {σ : q_S} {Q : Option Value → q_S → Prop} {p0 : Int32} {p1 : Int32}  (hs : q_Sh σ) (h : q_At G X_M_feltBy (d + 1) 0 0 5 [some (.ref 159), some (.int p0), some (.int p1), some (.int 0), some (.int 0), none] [] σ Q) : q_At G X_M_feltBy (d + 1) 0 0 0 [some (.ref 159), some (.int p0), some (.int p1), none, none, none] [] σ Q := by
  refine q_iconst (v := 0) o_M_feltBy_0 (by decide) ?_
  refine q2_istn (ls' := [some (.ref 159), some (.int p0), some (.int p1), some (.int 0), none, none]) o_M_feltBy_1 (Nat.le_of_ble_eq_true rfl) rfl ?_
  refine q_iconst (v := 0) o_M_feltBy_2 (by decide) ?_
  refine q2_ist (ls' := [some (.ref 159), some (.int p0), some (.int p1), some (.int 0), some (.int 0), none]) o_M_feltBy_3 (Nat.le_of_ble_eq_true rfl) rfl ?_
  exact h

set_option maxRecDepth 20000 in
theorem v_M_feltBy_5 {G : q_G} {d : Nat} {σ : q_S} {Q : Option Value → q_S → Prop} {p0 : Int32} {p1 : Int32} {l3 : Int32} {l4 : Int32}  (hs : q_Sh σ) (h : (((q_I σ 165 1) ≤ l4 → Q (some (.int l3)) σ) ∧ (¬ (q_I σ 165 1) ≤ l4 → ((¬ l4 = p1 → q_Call G d 0 0 X_M_wallBy [.ref 159, .int p0, .int p1, .int l4] σ (q_ri (fun x9 σ7 => ((x9 ≤ 0 → q_At G X_M_feltBy (d + 1) 0 0 5 [some (.ref 159), some (.int p0), some (.int p1), some (.int (l3 + 0)), some (.int (l4 + 1)), none] [] σ7 Q) ∧ (¬ x9 ≤ 0 → (∃ k14, (((60 * p1) + (10 * l4)) + x9) = nI k14 ∧ k14 < 360 ∧ q_At G X_M_feltBy (d + 1) 0 0 5 [some (.ref 159), some (.int p0), some (.int p1), some (.int (l3 + (q_I σ7 177 k14))), some (.int (l4 + 1)), none] [] σ7 Q)))))) ∧ (l4 = p1 → q_At G X_M_feltBy (d + 1) 0 0 5 [some (.ref 159), some (.int p0), some (.int p1), some (.int (l3 + 0)), some (.int (l4 + 1)), none] [] σ Q))))) : q_At G X_M_feltBy (d + 1) 0 0 5 [some (.ref 159), some (.int p0), some (.int p1), some (.int l3), some (.int l4), none] [] σ Q := by
  refine q_iload o_M_feltBy_5 rfl ?_
  refine q_aload_n o_M_feltBy_7 rfl ?_
  refine q2_M_families hs o_M_feltBy_8 k_M_309 (Nat.le_of_ble_eq_true rfl) ?_
  refine q_icmp_ge o_M_feltBy_11 (fun c1 => ?_) (fun c1 => ?_)
  · have h2 := h.1 c1
    refine q_iload_n o_M_feltBy_70 rfl ?_
    exact q_ire o_M_feltBy_71 rfl h2
  · have h3 := h.2 c1
    refine q_iload o_M_feltBy_14 rfl ?_
    refine q_iload_n o_M_feltBy_16 rfl ?_
    refine q_icmp_ne o_M_feltBy_17 (fun c4 => ?_) (fun c4 => ?_)
    · have h5 := h3.1 c4
      refine q_aload_n o_M_feltBy_24 rfl ?_
      refine q_iload_n o_M_feltBy_25 rfl ?_
      refine q_iload_n o_M_feltBy_26 rfl ?_
      refine q_iload o_M_feltBy_27 rfl ?_
      refine q2_callVi _ (a := 159) (As := [.int p0, .int p1, .int l4]) (st := []) hs o_M_feltBy_29 k_M_344 rfl rfl (Nat.le_of_ble_eq_true rfl) h5 (fun x9 σ7 hs8 h6 => ?_)
      refine q2_ist (ls' := [some (.ref 159), some (.int p0), some (.int p1), some (.int l3), some (.int l4), some (.int x9)]) o_M_feltBy_32 (Nat.le_of_ble_eq_true rfl) rfl ?_
      refine q_iload_n o_M_feltBy_34 rfl ?_
      refine q_iload o_M_feltBy_35 rfl ?_
      refine q_if_le o_M_feltBy_37 (fun c10 => ?_) (fun c10 => ?_)
      · have h11 := h6.1 c10
        refine q_iconst (v := 0) o_M_feltBy_61 (by decide) ?_
        refine q_iadd o_M_feltBy_62 ?_
        refine q2_istn (ls' := [some (.ref 159), some (.int p0), some (.int p1), some (.int (l3 + 0)), some (.int l4), some (.int x9)]) o_M_feltBy_63 (Nat.le_of_ble_eq_true rfl) rfl ?_
        refine q2_inc (v := (l4 + 1)) (ls' := [some (.ref 159), some (.int p0), some (.int p1), some (.int (l3 + 0)), some (.int (l4 + 1)), some (.int x9)]) o_M_feltBy_64 rfl rfl (Nat.le_of_ble_eq_true rfl) rfl ?_
        refine q_goto o_M_feltBy_67 ?_
        exact q_weak (ls' := [some (.ref 159), some (.int p0), some (.int p1), some (.int (l3 + 0)), some (.int (l4 + 1)), none]) (And.intro rfl (And.intro rfl (And.intro rfl (And.intro rfl (And.intro rfl trivial))))) h11
      · have h12 := h6.2 c10
        refine q_aload_n o_M_feltBy_40 rfl ?_
        refine q2_getR hs8 o_M_feltBy_41 f_M_140 rfl (fz_159_27 hs8) ?_
        refine q_bipush (v := 60) o_M_feltBy_44 (by decide) ?_
        refine q_iload_n o_M_feltBy_46 rfl ?_
        refine q_imul o_M_feltBy_47 ?_
        refine q_bipush (v := 10) o_M_feltBy_48 (by decide) ?_
        refine q_iload o_M_feltBy_50 rfl ?_
        refine q_imul o_M_feltBy_52 ?_
        refine q_iadd o_M_feltBy_53 ?_
        refine q_iload o_M_feltBy_54 rfl ?_
        refine q_iadd o_M_feltBy_56 ?_
        obtain ⟨k14, eh13, bh13, h13⟩ := h12
        refine q2_iald hs8 o_M_feltBy_57 rfl eh13 bh13 (by decide) ?_
        refine q_goto o_M_feltBy_58 ?_
        refine q_iadd o_M_feltBy_62 ?_
        refine q2_istn (ls' := [some (.ref 159), some (.int p0), some (.int p1), some (.int (l3 + (q_I σ7 177 k14))), some (.int l4), some (.int x9)]) o_M_feltBy_63 (Nat.le_of_ble_eq_true rfl) rfl ?_
        refine q2_inc (v := (l4 + 1)) (ls' := [some (.ref 159), some (.int p0), some (.int p1), some (.int (l3 + (q_I σ7 177 k14))), some (.int (l4 + 1)), some (.int x9)]) o_M_feltBy_64 rfl rfl (Nat.le_of_ble_eq_true rfl) rfl ?_
        refine q_goto o_M_feltBy_67 ?_
        exact q_weak (ls' := [some (.ref 159), some (.int p0), some (.int p1), some (.int (l3 + (q_I σ7 177 k14))), some (.int (l4 + 1)), none]) (And.intro rfl (And.intro rfl (And.intro rfl (And.intro rfl (And.intro rfl trivial))))) h13
    · have h15 := h3.2 c4
      refine q_iconst (v := 0) o_M_feltBy_20 (by decide) ?_
      refine q_goto o_M_feltBy_21 ?_
      refine q2_ist (ls' := [some (.ref 159), some (.int p0), some (.int p1), some (.int l3), some (.int l4), some (.int 0)]) o_M_feltBy_32 (Nat.le_of_ble_eq_true rfl) rfl ?_
      refine q_iload_n o_M_feltBy_34 rfl ?_
      refine q_iload o_M_feltBy_35 rfl ?_
      refine q_if_le o_M_feltBy_37 (fun _ => ?_) (fun c16 => absurd c16 (by decide))
      refine q_iconst (v := 0) o_M_feltBy_61 (by decide) ?_
      refine q_iadd o_M_feltBy_62 ?_
      refine q2_istn (ls' := [some (.ref 159), some (.int p0), some (.int p1), some (.int (l3 + 0)), some (.int l4), some (.int 0)]) o_M_feltBy_63 (Nat.le_of_ble_eq_true rfl) rfl ?_
      refine q2_inc (v := (l4 + 1)) (ls' := [some (.ref 159), some (.int p0), some (.int p1), some (.int (l3 + 0)), some (.int (l4 + 1)), some (.int 0)]) o_M_feltBy_64 rfl rfl (Nat.le_of_ble_eq_true rfl) rfl ?_
      refine q_goto o_M_feltBy_67 ?_
      exact q_weak (ls' := [some (.ref 159), some (.int p0), some (.int p1), some (.int (l3 + 0)), some (.int (l4 + 1)), none]) (And.intro rfl (And.intro rfl (And.intro rfl (And.intro rfl (And.intro rfl trivial))))) h15

set_option maxRecDepth 20000 in
theorem v_M_likes_0 {G : q_G} {d : Nat} {σ : q_S} {Q : Option Value → q_S → Prop} {p0 : Int32} {p1 : Int32}  (hs : q_Sh σ) (h : (∃ k2, ((68 + (6 * p0)) + p1) = nI k2 ∧ k2 < 400 ∧ (∃ k4, ((104 + (6 * p0)) + p1) = nI k4 ∧ k4 < 400 ∧ Q (some (.int ((q_I σ 165 k2) - (q_I σ 165 k4)))) σ))) : q_At G X_M_likes d 0 0 0 [some (.ref 159), some (.int p0), some (.int p1)] [] σ Q := by
  refine q_aload_n o_M_likes_0 rfl ?_
  refine q2_getR hs o_M_likes_1 f_M_103 rfl (fz_159_10 hs) ?_
  refine q_bipush (v := 68) o_M_likes_4 (by decide) ?_
  refine q_bipush (v := 6) o_M_likes_6 (by decide) ?_
  refine q_iload_n o_M_likes_8 rfl ?_
  refine q_imul o_M_likes_9 ?_
  refine q_iadd o_M_likes_10 ?_
  refine q_iload_n o_M_likes_11 rfl ?_
  refine q_iadd o_M_likes_12 ?_
  obtain ⟨k2, eh1, bh1, h1⟩ := h
  refine q2_iald hs o_M_likes_13 rfl eh1 bh1 (by decide) ?_
  refine q_aload_n o_M_likes_14 rfl ?_
  refine q2_getR hs o_M_likes_15 f_M_103 rfl (fz_159_10 hs) ?_
  refine q_bipush (v := 104) o_M_likes_18 (by decide) ?_
  refine q_bipush (v := 6) o_M_likes_20 (by decide) ?_
  refine q_iload_n o_M_likes_22 rfl ?_
  refine q_imul o_M_likes_23 ?_
  refine q_iadd o_M_likes_24 ?_
  refine q_iload_n o_M_likes_25 rfl ?_
  refine q_iadd o_M_likes_26 ?_
  obtain ⟨k4, eh3, bh3, h3⟩ := h1
  refine q2_iald hs o_M_likes_27 rfl eh3 bh3 (by decide) ?_
  refine q_isub o_M_likes_28 ?_
  exact q_ire o_M_likes_29 rfl h3

set_option maxRecDepth 20000 in
theorem v_M_joyBy_0 {G : q_G} {d : Nat} {σ : q_S} {Q : Option Value → q_S → Prop} {p0 : Int32} {p1 : Int32}  (hs : q_Sh σ) (h : q_At G X_M_joyBy (d + 1) 0 0 16 [some (.ref 159), some (.int p0), some (.int p1), some (.int 0), none] [] (q_setI (q_setI σ 173 3 0) 173 5 0) Q) : q_At G X_M_joyBy (d + 1) 0 0 0 [some (.ref 159), some (.int p0), some (.int p1), none, none] [] σ Q := by
  refine q_aload_n o_M_joyBy_0 rfl ?_
  refine q2_getR hs o_M_joyBy_1 f_M_127 rfl (fz_159_22 hs) ?_
  refine q_iconst (v := 3) o_M_joyBy_4 (by decide) ?_
  refine q_iconst (v := 0) o_M_joyBy_5 (by decide) ?_
  refine q2_iast (i := 3) hs o_M_joyBy_6 rfl rfl (by decide) (by decide) ?_
  refine q_aload_n o_M_joyBy_7 rfl ?_
  refine q2_getR hs o_M_joyBy_8 f_M_127 rfl (fz_159_22 hs) ?_
  refine q_iconst (v := 5) o_M_joyBy_11 (by decide) ?_
  refine q_iconst (v := 0) o_M_joyBy_12 (by decide) ?_
  refine q2_iast (i := 5) hs o_M_joyBy_13 rfl rfl (by decide) (by decide) ?_
  refine q_iconst (v := 0) o_M_joyBy_14 (by decide) ?_
  refine q2_istn (ls' := [some (.ref 159), some (.int p0), some (.int p1), some (.int 0), none]) o_M_joyBy_15 (Nat.le_of_ble_eq_true rfl) rfl ?_
  exact h

set_option maxRecDepth 20000 in
theorem v_M_joyBy_16 {G : q_G} {d : Nat} {σ : q_S} {Q : Option Value → q_S → Prop} {p0 : Int32} {p1 : Int32} {l3 : Int32}  (hs : q_Sh σ) (h : (((q_I σ 165 1) ≤ l3 → q_Call G d 0 0 X_M_feltBy [.ref 159, .int p0, .int p1] σ (q_ri (fun x6 σ4 => ((0 ≤ (q_I (q_setI σ4 173 4 x6) 165 6) → q_Call G d 0 0 X_M_worthAt [.ref 159, .int (q_I (q_setI σ4 173 4 x6) 165 6)] (q_setI σ4 173 4 x6) (q_ri (fun x18 σ16 => Q (some (.int (if (-999) ≤ x18 then (if x18 ≤ 999 then x18 else (999 : Int32)) else ((-999) : Int32)))) σ16))) ∧ (¬ 0 ≤ (q_I (q_setI σ4 173 4 x6) 165 6) → Q (some (.int (if (-999) ≤ ((q_I (q_setI σ4 173 4 x6) 173 3) - (q_I (q_setI σ4 173 4 x6) 173 4)) then (if ((q_I (q_setI σ4 173 4 x6) 173 3) - (q_I (q_setI σ4 173 4 x6) 173 4)) ≤ 999 then ((q_I (q_setI σ4 173 4 x6) 173 3) - (q_I (q_setI σ4 173 4 x6) 173 4)) else (999 : Int32)) else ((-999) : Int32)))) (q_setI σ4 173 4 x6)))))) ∧ (¬ (q_I σ 165 1) ≤ l3 → ((l3 = p1 → q_At G X_M_joyBy (d + 1) 0 0 16 [some (.ref 159), some (.int p0), some (.int p1), some (.int (l3 + 1)), none] [] (q_setI (q_setI σ 173 3 ((q_I σ 173 3) + 0)) 173 5 ((q_I (q_setI σ 173 3 ((q_I σ 173 3) + 0)) 173 5) + 0)) Q) ∧ (¬ l3 = p1 → q_Call G d 0 0 X_M_wallBy [.ref 159, .int p0, .int p1, .int l3] σ (q_ri (fun x45 σ43 => (((if x45 ≤ 0 then (0 : Int32) else (1 : Int32)) = 0 → q_At G X_M_joyBy (d + 1) 0 0 16 [some (.ref 159), some (.int p0), some (.int p1), some (.int (l3 + 1)), none] [] (q_setI (q_setI σ43 173 3 ((q_I σ43 173 3) + 0)) 173 5 ((q_I (q_setI σ43 173 3 ((q_I σ43 173 3) + 0)) 173 5) + (if (if x45 ≤ 0 then (0 : Int32) else (1 : Int32)) = 0 then (0 : Int32) else (1 : Int32)))) Q) ∧ (¬ (if x45 ≤ 0 then (0 : Int32) else (1 : Int32)) = 0 → q_Call G d 0 0 X_M_likes [.ref 159, .int p1, .int l3] σ43 (q_ri (fun x62 σ60 => q_At G X_M_joyBy (d + 1) 0 0 16 [some (.ref 159), some (.int p0), some (.int p1), some (.int (l3 + 1)), none] [] (q_setI (q_setI σ60 173 3 ((q_I σ43 173 3) + x62)) 173 5 ((q_I (q_setI σ60 173 3 ((q_I σ43 173 3) + x62)) 173 5) + (if (if x45 ≤ 0 then (0 : Int32) else (1 : Int32)) = 0 then (0 : Int32) else (1 : Int32)))) Q))))))))))) : q_At G X_M_joyBy (d + 1) 0 0 16 [some (.ref 159), some (.int p0), some (.int p1), some (.int l3), none] [] σ Q := by
  refine q_iload_n o_M_joyBy_16 rfl ?_
  refine q_aload_n o_M_joyBy_17 rfl ?_
  refine q2_M_families hs o_M_joyBy_18 k_M_309 (Nat.le_of_ble_eq_true rfl) ?_
  refine q_icmp_ge o_M_joyBy_21 (fun c1 => ?_) (fun c1 => ?_)
  · have h2 := h.1 c1
    refine q_aload_n o_M_joyBy_95 rfl ?_
    refine q2_getR hs o_M_joyBy_96 f_M_127 rfl (fz_159_22 hs) ?_
    refine q_iconst (v := 4) o_M_joyBy_99 (by decide) ?_
    refine q_aload_n o_M_joyBy_100 rfl ?_
    refine q_iload_n o_M_joyBy_101 rfl ?_
    refine q_iload_n o_M_joyBy_102 rfl ?_
    refine q2_callVi _ (a := 159) (As := [.int p0, .int p1]) (st := [.int 4, .ref 173]) hs o_M_joyBy_103 k_M_350 rfl rfl (Nat.le_of_ble_eq_true rfl) h2 (fun x6 σ4 hs5 h3 => ?_)
    refine q2_iast (i := 4) hs5 o_M_joyBy_106 rfl rfl (by decide) (by decide) ?_
    refine q_aload_n o_M_joyBy_107 rfl ?_
    refine q2_getR hs5 o_M_joyBy_108 f_M_103 rfl (fz_159_10 hs5) ?_
    refine q_bipush (v := 6) o_M_joyBy_111 (by decide) ?_
    refine q2_iald (i := 6) hs5 o_M_joyBy_113 rfl rfl (by decide) (by decide) ?_
    refine q_if_ge o_M_joyBy_114 (fun c11 => ?_) (fun c11 => ?_)
    · have h12 := h3.1 c11
      refine q_aload_n o_M_joyBy_133 rfl ?_
      refine q_aload_n o_M_joyBy_134 rfl ?_
      refine q2_getR hs5 o_M_joyBy_135 f_M_103 rfl (fz_159_10 hs5) ?_
      refine q_bipush (v := 6) o_M_joyBy_138 (by decide) ?_
      refine q2_iald (i := 6) hs5 o_M_joyBy_140 rfl rfl (by decide) (by decide) ?_
      refine q2_callVi _ (a := 159) (As := [.int (q_I (q_setI σ4 173 4 x6) 165 6)]) (st := []) hs5 o_M_joyBy_141 k_M_341 rfl rfl (Nat.le_of_ble_eq_true rfl) h12 (fun x18 σ16 hs17 h15 => ?_)
      refine q2_istn (ls' := [some (.ref 159), some (.int p0), some (.int p1), some (.int x18), none]) o_M_joyBy_144 (Nat.le_of_ble_eq_true rfl) rfl ?_
      refine q_iload_n o_M_joyBy_145 rfl ?_
      refine q_sipush (v := (-999)) o_M_joyBy_146 (by decide) ?_
      have hJ : ∀ vJ : Int32, vJ = (if (-999) ≤ x18 then (if x18 ≤ 999 then x18 else (999 : Int32)) else ((-999) : Int32)) → q_At G X_M_joyBy (d + 1) 0 0 172 [some (.ref 159), some (.int p0), some (.int p1), some (.int x18), none] [.int vJ] σ16 Q := by
        intro vJ eJ
        rw [eJ]
        clear eJ vJ
        exact q_ire o_M_joyBy_172 rfl h15
      refine q_icmp_ge o_M_joyBy_149 (fun c19 => ?_) (fun c19 => ?_)
      · refine q_iload_n o_M_joyBy_158 rfl ?_
        refine q_sipush (v := 999) o_M_joyBy_159 (by decide) ?_
        refine q_icmp_le o_M_joyBy_162 (fun c20 => ?_) (fun c20 => ?_)
        · refine q_iload_n o_M_joyBy_171 rfl ?_
          exact hJ _ (Eq.symm ((if_pos c19).trans (if_pos c20)))
        · refine q_sipush (v := 999) o_M_joyBy_165 (by decide) ?_
          refine q_goto o_M_joyBy_168 ?_
          exact hJ _ (Eq.symm ((if_pos c19).trans (if_neg c20)))
      · refine q_sipush (v := (-999)) o_M_joyBy_152 (by decide) ?_
        refine q_goto o_M_joyBy_155 ?_
        exact hJ _ (Eq.symm (if_neg c19))
    · have h21 := h3.2 c11
      refine q_aload_n o_M_joyBy_117 rfl ?_
      refine q2_getR hs5 o_M_joyBy_118 f_M_127 rfl (fz_159_22 hs5) ?_
      refine q_iconst (v := 3) o_M_joyBy_121 (by decide) ?_
      refine q2_iald (i := 3) hs5 o_M_joyBy_122 rfl rfl (by decide) (by decide) ?_
      refine q_aload_n o_M_joyBy_123 rfl ?_
      refine q2_getR hs5 o_M_joyBy_124 f_M_127 rfl (fz_159_22 hs5) ?_
      refine q_iconst (v := 4) o_M_joyBy_127 (by decide) ?_
      refine q2_iald (i := 4) hs5 o_M_joyBy_128 rfl rfl (by decide) (by decide) ?_
      refine q_isub o_M_joyBy_129 ?_
      refine q_goto o_M_joyBy_130 ?_
      refine q2_istn (ls' := [some (.ref 159), some (.int p0), some (.int p1), some (.int ((q_I (q_setI σ4 173 4 x6) 173 3) - (q_I (q_setI σ4 173 4 x6) 173 4))), none]) o_M_joyBy_144 (Nat.le_of_ble_eq_true rfl) rfl ?_
      refine q_iload_n o_M_joyBy_145 rfl ?_
      refine q_sipush (v := (-999)) o_M_joyBy_146 (by decide) ?_
      have hJ : ∀ vJ : Int32, vJ = (if (-999) ≤ ((q_I (q_setI σ4 173 4 x6) 173 3) - (q_I (q_setI σ4 173 4 x6) 173 4)) then (if ((q_I (q_setI σ4 173 4 x6) 173 3) - (q_I (q_setI σ4 173 4 x6) 173 4)) ≤ 999 then ((q_I (q_setI σ4 173 4 x6) 173 3) - (q_I (q_setI σ4 173 4 x6) 173 4)) else (999 : Int32)) else ((-999) : Int32)) → q_At G X_M_joyBy (d + 1) 0 0 172 [some (.ref 159), some (.int p0), some (.int p1), some (.int ((q_I (q_setI σ4 173 4 x6) 173 3) - (q_I (q_setI σ4 173 4 x6) 173 4))), none] [.int vJ] (q_setI σ4 173 4 x6) Q := by
        intro vJ eJ
        rw [eJ]
        clear eJ vJ
        exact q_ire o_M_joyBy_172 rfl h21
      refine q_icmp_ge o_M_joyBy_149 (fun c26 => ?_) (fun c26 => ?_)
      · refine q_iload_n o_M_joyBy_158 rfl ?_
        refine q_sipush (v := 999) o_M_joyBy_159 (by decide) ?_
        refine q_icmp_le o_M_joyBy_162 (fun c27 => ?_) (fun c27 => ?_)
        · refine q_iload_n o_M_joyBy_171 rfl ?_
          exact hJ _ (Eq.symm ((if_pos c26).trans (if_pos c27)))
        · refine q_sipush (v := 999) o_M_joyBy_165 (by decide) ?_
          refine q_goto o_M_joyBy_168 ?_
          exact hJ _ (Eq.symm ((if_pos c26).trans (if_neg c27)))
      · refine q_sipush (v := (-999)) o_M_joyBy_152 (by decide) ?_
        refine q_goto o_M_joyBy_155 ?_
        exact hJ _ (Eq.symm (if_neg c26))
  · have h28 := h.2 c1
    refine q_iload_n o_M_joyBy_24 rfl ?_
    refine q_iload_n o_M_joyBy_25 rfl ?_
    refine q_icmp_eq o_M_joyBy_26 (fun c29 => ?_) (fun c29 => ?_)
    · have h30 := h28.1 c29
      refine q_iconst (v := 0) o_M_joyBy_43 (by decide) ?_
      refine q2_ist (ls' := [some (.ref 159), some (.int p0), some (.int p1), some (.int l3), some (.int 0)]) o_M_joyBy_44 (Nat.le_of_ble_eq_true rfl) rfl ?_
      refine q_aload_n o_M_joyBy_46 rfl ?_
      refine q2_getR hs o_M_joyBy_47 f_M_127 rfl (fz_159_22 hs) ?_
      refine q_iconst (v := 3) o_M_joyBy_50 (by decide) ?_
      refine q_dup2 o_M_joyBy_51 rfl rfl ?_
      refine q2_iald (i := 3) hs o_M_joyBy_52 rfl rfl (by decide) (by decide) ?_
      refine q_iload o_M_joyBy_53 rfl ?_
      refine q_if_eq o_M_joyBy_55 (fun _ => ?_) (fun c33 => absurd c33 (by decide))
      refine q_iconst (v := 0) o_M_joyBy_67 (by decide) ?_
      refine q_iadd o_M_joyBy_68 ?_
      refine q2_iast (i := 3) hs o_M_joyBy_69 rfl rfl (by decide) (by decide) ?_
      refine q_aload_n o_M_joyBy_70 rfl ?_
      refine q2_getR hs o_M_joyBy_71 f_M_127 rfl (fz_159_22 hs) ?_
      refine q_iconst (v := 5) o_M_joyBy_74 (by decide) ?_
      refine q_dup2 o_M_joyBy_75 rfl rfl ?_
      refine q2_iald (i := 5) hs o_M_joyBy_76 rfl rfl (by decide) (by decide) ?_
      refine q_iload o_M_joyBy_77 rfl ?_
      refine q_if_eq o_M_joyBy_79 (fun _ => ?_) (fun c38 => absurd c38 (by decide))
      refine q_iconst (v := 0) o_M_joyBy_86 (by decide) ?_
      refine q_iadd o_M_joyBy_87 ?_
      refine q2_iast (i := 5) hs o_M_joyBy_88 rfl rfl (by decide) (by decide) ?_
      refine q2_inc (v := (l3 + 1)) (ls' := [some (.ref 159), some (.int p0), some (.int p1), some (.int (l3 + 1)), some (.int 0)]) o_M_joyBy_89 rfl rfl (Nat.le_of_ble_eq_true rfl) rfl ?_
      refine q_goto o_M_joyBy_92 ?_
      exact q_weak (ls' := [some (.ref 159), some (.int p0), some (.int p1), some (.int (l3 + 1)), none]) (And.intro rfl (And.intro rfl (And.intro rfl (And.intro rfl trivial)))) h30
    · have h41 := h28.2 c29
      refine q_aload_n o_M_joyBy_29 rfl ?_
      refine q_iload_n o_M_joyBy_30 rfl ?_
      refine q_iload_n o_M_joyBy_31 rfl ?_
      refine q_iload_n o_M_joyBy_32 rfl ?_
      refine q2_callVi _ (a := 159) (As := [.int p0, .int p1, .int l3]) (st := []) hs o_M_joyBy_33 k_M_344 rfl rfl (Nat.le_of_ble_eq_true rfl) h41 (fun x45 σ43 hs44 h42 => ?_)
      have hJ : ∀ vJ : Int32, vJ = (if x45 ≤ 0 then (0 : Int32) else (1 : Int32)) → q_At G X_M_joyBy (d + 1) 0 0 44 [some (.ref 159), some (.int p0), some (.int p1), some (.int l3), none] [.int vJ] σ43 Q := by
        intro vJ eJ
        rw [eJ]
        clear eJ vJ
        refine q2_ist (ls' := [some (.ref 159), some (.int p0), some (.int p1), some (.int l3), some (.int (if x45 ≤ 0 then (0 : Int32) else (1 : Int32)))]) o_M_joyBy_44 (Nat.le_of_ble_eq_true rfl) rfl ?_
        refine q_aload_n o_M_joyBy_46 rfl ?_
        refine q2_getR hs44 o_M_joyBy_47 f_M_127 rfl (fz_159_22 hs44) ?_
        refine q_iconst (v := 3) o_M_joyBy_50 (by decide) ?_
        refine q_dup2 o_M_joyBy_51 rfl rfl ?_
        refine q2_iald (i := 3) hs44 o_M_joyBy_52 rfl rfl (by decide) (by decide) ?_
        refine q_iload o_M_joyBy_53 rfl ?_
        refine q_if_eq o_M_joyBy_55 (fun c49 => ?_) (fun c49 => ?_)
        · have h50 := h42.1 c49
          refine q_iconst (v := 0) o_M_joyBy_67 (by decide) ?_
          refine q_iadd o_M_joyBy_68 ?_
          refine q2_iast (i := 3) hs44 o_M_joyBy_69 rfl rfl (by decide) (by decide) ?_
          refine q_aload_n o_M_joyBy_70 rfl ?_
          refine q2_getR hs44 o_M_joyBy_71 f_M_127 rfl (fz_159_22 hs44) ?_
          refine q_iconst (v := 5) o_M_joyBy_74 (by decide) ?_
          refine q_dup2 o_M_joyBy_75 rfl rfl ?_
          refine q2_iald (i := 5) hs44 o_M_joyBy_76 rfl rfl (by decide) (by decide) ?_
          refine q_iload o_M_joyBy_77 rfl ?_
          have hJ : ∀ vJ : Int32, vJ = (if (if x45 ≤ 0 then (0 : Int32) else (1 : Int32)) = 0 then (0 : Int32) else (1 : Int32)) → q_At G X_M_joyBy (d + 1) 0 0 87 [some (.ref 159), some (.int p0), some (.int p1), some (.int l3), some (.int (if x45 ≤ 0 then (0 : Int32) else (1 : Int32)))] [.int vJ, .int (q_I (q_setI σ43 173 3 ((q_I σ43 173 3) + 0)) 173 5), .int 5, .ref 173] (q_setI σ43 173 3 ((q_I σ43 173 3) + 0)) Q := by
            intro vJ eJ
            rw [eJ]
            clear eJ vJ
            refine q_iadd o_M_joyBy_87 ?_
            refine q2_iast (i := 5) hs44 o_M_joyBy_88 rfl rfl (by decide) (by decide) ?_
            refine q2_inc (v := (l3 + 1)) (ls' := [some (.ref 159), some (.int p0), some (.int p1), some (.int (l3 + 1)), some (.int (if x45 ≤ 0 then (0 : Int32) else (1 : Int32)))]) o_M_joyBy_89 rfl rfl (Nat.le_of_ble_eq_true rfl) rfl ?_
            refine q_goto o_M_joyBy_92 ?_
            exact q_weak (ls' := [some (.ref 159), some (.int p0), some (.int p1), some (.int (l3 + 1)), none]) (And.intro rfl (And.intro rfl (And.intro rfl (And.intro rfl trivial)))) h50
          refine q_if_eq o_M_joyBy_79 (fun c55 => ?_) (fun c55 => ?_)
          · refine q_iconst (v := 0) o_M_joyBy_86 (by decide) ?_
            exact hJ _ (Eq.symm (if_pos c55))
          · refine q_iconst (v := 1) o_M_joyBy_82 (by decide) ?_
            refine q_goto o_M_joyBy_83 ?_
            exact hJ _ (Eq.symm (if_neg c55))
        · have h58 := h42.2 c49
          refine q_aload_n o_M_joyBy_58 rfl ?_
          refine q_iload_n o_M_joyBy_59 rfl ?_
          refine q_iload_n o_M_joyBy_60 rfl ?_
          refine q2_callVi _ (a := 159) (As := [.int p1, .int l3]) (st := [.int (q_I σ43 173 3), .int 3, .ref 173]) hs44 o_M_joyBy_61 k_M_347 rfl rfl (Nat.le_of_ble_eq_true rfl) h58 (fun x62 σ60 hs61 h59 => ?_)
          refine q_goto o_M_joyBy_64 ?_
          refine q_iadd o_M_joyBy_68 ?_
          refine q2_iast (i := 3) hs61 o_M_joyBy_69 rfl rfl (by decide) (by decide) ?_
          refine q_aload_n o_M_joyBy_70 rfl ?_
          refine q2_getR hs61 o_M_joyBy_71 f_M_127 rfl (fz_159_22 hs61) ?_
          refine q_iconst (v := 5) o_M_joyBy_74 (by decide) ?_
          refine q_dup2 o_M_joyBy_75 rfl rfl ?_
          refine q2_iald (i := 5) hs61 o_M_joyBy_76 rfl rfl (by decide) (by decide) ?_
          refine q_iload o_M_joyBy_77 rfl ?_
          have hJ : ∀ vJ : Int32, vJ = (if (if x45 ≤ 0 then (0 : Int32) else (1 : Int32)) = 0 then (0 : Int32) else (1 : Int32)) → q_At G X_M_joyBy (d + 1) 0 0 87 [some (.ref 159), some (.int p0), some (.int p1), some (.int l3), some (.int (if x45 ≤ 0 then (0 : Int32) else (1 : Int32)))] [.int vJ, .int (q_I (q_setI σ60 173 3 ((q_I σ43 173 3) + x62)) 173 5), .int 5, .ref 173] (q_setI σ60 173 3 ((q_I σ43 173 3) + x62)) Q := by
            intro vJ eJ
            rw [eJ]
            clear eJ vJ
            refine q_iadd o_M_joyBy_87 ?_
            refine q2_iast (i := 5) hs61 o_M_joyBy_88 rfl rfl (by decide) (by decide) ?_
            refine q2_inc (v := (l3 + 1)) (ls' := [some (.ref 159), some (.int p0), some (.int p1), some (.int (l3 + 1)), some (.int (if x45 ≤ 0 then (0 : Int32) else (1 : Int32)))]) o_M_joyBy_89 rfl rfl (Nat.le_of_ble_eq_true rfl) rfl ?_
            refine q_goto o_M_joyBy_92 ?_
            exact q_weak (ls' := [some (.ref 159), some (.int p0), some (.int p1), some (.int (l3 + 1)), none]) (And.intro rfl (And.intro rfl (And.intro rfl (And.intro rfl trivial)))) h59
          refine q_if_eq o_M_joyBy_79 (fun c67 => ?_) (fun c67 => ?_)
          · refine q_iconst (v := 0) o_M_joyBy_86 (by decide) ?_
            exact hJ _ (Eq.symm (if_pos c67))
          · refine q_iconst (v := 1) o_M_joyBy_82 (by decide) ?_
            refine q_goto o_M_joyBy_83 ?_
            exact hJ _ (Eq.symm (if_neg c67))
      refine q_if_le o_M_joyBy_36 (fun c46 => ?_) (fun c46 => ?_)
      · refine q_iconst (v := 0) o_M_joyBy_43 (by decide) ?_
        exact hJ _ (Eq.symm (if_pos c46))
      · refine q_iconst (v := 1) o_M_joyBy_39 (by decide) ?_
        refine q_goto o_M_joyBy_40 ?_
        exact hJ _ (Eq.symm (if_neg c46))

set_option maxRecDepth 20000 in
theorem v_M_contentBy_0 {G : q_G} {d : Nat} {σ : q_S} {Q : Option Value → q_S → Prop} {p0 : Int32}  (hs : q_Sh σ) (h : q_At G X_M_contentBy (d + 1) 0 0 4 [some (.ref 159), some (.int p0), some (.int 0), some (.int 0)] [] σ Q) : q_At G X_M_contentBy (d + 1) 0 0 0 [some (.ref 159), some (.int p0), none, none] [] σ Q := by
  refine q_iconst (v := 0) o_M_contentBy_0 (by decide) ?_
  refine q2_istn (ls' := [some (.ref 159), some (.int p0), some (.int 0), none]) o_M_contentBy_1 (Nat.le_of_ble_eq_true rfl) rfl ?_
  refine q_iconst (v := 0) o_M_contentBy_2 (by decide) ?_
  refine q2_istn (ls' := [some (.ref 159), some (.int p0), some (.int 0), some (.int 0)]) o_M_contentBy_3 (Nat.le_of_ble_eq_true rfl) rfl ?_
  exact h

set_option maxRecDepth 20000 in
theorem v_M_contentBy_4 {G : q_G} {d : Nat} {σ : q_S} {Q : Option Value → q_S → Prop} {p0 : Int32} {l2 : Int32} {l3 : Int32}  (hs : q_Sh σ) (h : (((q_I σ 165 1) ≤ l3 → Q (some (.int l2)) σ) ∧ (¬ (q_I σ 165 1) ≤ l3 → q_Call G d 0 0 X_M_joyBy [.ref 159, .int p0, .int l3] σ (q_ri (fun x7 σ5 => q_At G X_M_contentBy (d + 1) 0 0 4 [some (.ref 159), some (.int p0), some (.int (l2 + (if x7 < 0 then (0 : Int32) else (1 : Int32)))), some (.int (l3 + 1))] [] σ5 Q))))) : q_At G X_M_contentBy (d + 1) 0 0 4 [some (.ref 159), some (.int p0), some (.int l2), some (.int l3)] [] σ Q := by
  refine q_iload_n o_M_contentBy_4 rfl ?_
  refine q_aload_n o_M_contentBy_5 rfl ?_
  refine q2_M_families hs o_M_contentBy_6 k_M_309 (Nat.le_of_ble_eq_true rfl) ?_
  refine q_icmp_ge o_M_contentBy_9 (fun c1 => ?_) (fun c1 => ?_)
  · have h2 := h.1 c1
    refine q_iload_n o_M_contentBy_35 rfl ?_
    exact q_ire o_M_contentBy_36 rfl h2
  · have h3 := h.2 c1
    refine q_iload_n o_M_contentBy_12 rfl ?_
    refine q_aload_n o_M_contentBy_13 rfl ?_
    refine q_iload_n o_M_contentBy_14 rfl ?_
    refine q_iload_n o_M_contentBy_15 rfl ?_
    refine q2_callVi _ (a := 159) (As := [.int p0, .int l3]) (st := [.int l2]) hs o_M_contentBy_16 k_M_353 rfl rfl (Nat.le_of_ble_eq_true rfl) h3 (fun x7 σ5 hs6 h4 => ?_)
    have hJ : ∀ vJ : Int32, vJ = (if x7 < 0 then (0 : Int32) else (1 : Int32)) → q_At G X_M_contentBy (d + 1) 0 0 27 [some (.ref 159), some (.int p0), some (.int l2), some (.int l3)] [.int vJ, .int l2] σ5 Q := by
      intro vJ eJ
      rw [eJ]
      clear eJ vJ
      refine q_iadd o_M_contentBy_27 ?_
      refine q2_istn (ls' := [some (.ref 159), some (.int p0), some (.int (l2 + (if x7 < 0 then (0 : Int32) else (1 : Int32)))), some (.int l3)]) o_M_contentBy_28 (Nat.le_of_ble_eq_true rfl) rfl ?_
      refine q2_inc (v := (l3 + 1)) (ls' := [some (.ref 159), some (.int p0), some (.int (l2 + (if x7 < 0 then (0 : Int32) else (1 : Int32)))), some (.int (l3 + 1))]) o_M_contentBy_29 rfl rfl (Nat.le_of_ble_eq_true rfl) rfl ?_
      refine q_goto o_M_contentBy_32 ?_
      exact h4
    refine q_if_lt o_M_contentBy_19 (fun c8 => ?_) (fun c8 => ?_)
    · refine q_iconst (v := 0) o_M_contentBy_26 (by decide) ?_
      exact hJ _ (Eq.symm (if_pos c8))
    · refine q_iconst (v := 1) o_M_contentBy_22 (by decide) ?_
      refine q_goto o_M_contentBy_23 ?_
      exact hJ _ (Eq.symm (if_neg c8))
