set_option maxRecDepth 20000 in
theorem v_M_brokenBy_0 {G : q_G} {d : Nat} {σ : q_S} {Q : Option Value → q_S → Prop} {p0 : Int32}  (hs : q_Sh σ) (h : q_At G X_M_brokenBy (d + 1) 0 0 4 [some (.ref 159), some (.int p0), some (.int 0), some (.int 0), none, none, none] [] σ Q) : q_At G X_M_brokenBy (d + 1) 0 0 0 [some (.ref 159), some (.int p0), none, none, none, none, none] [] σ Q := by
  refine q_iconst (v := 0) o_M_brokenBy_0 (by decide) ?_
  refine q2_istn (ls' := [some (.ref 159), some (.int p0), some (.int 0), none, none, none, none]) o_M_brokenBy_1 (Nat.le_of_ble_eq_true rfl) rfl ?_
  refine q_iconst (v := 0) o_M_brokenBy_2 (by decide) ?_
  refine q2_istn (ls' := [some (.ref 159), some (.int p0), some (.int 0), some (.int 0), none, none, none]) o_M_brokenBy_3 (Nat.le_of_ble_eq_true rfl) rfl ?_
  exact h

set_option maxRecDepth 20000 in
theorem v_M_brokenBy_4 {G : q_G} {d : Nat} {σ : q_S} {Q : Option Value → q_S → Prop} {p0 : Int32} {l2 : Int32} {l3 : Int32}  (hs : q_Sh σ) (h : ((2 ≤ l3 → Q (some (.int l2)) σ) ∧ (¬ 2 ≤ l3 → q_At G X_M_brokenBy (d + 1) 0 0 12 [some (.ref 159), some (.int p0), some (.int l2), some (.int l3), some (.int 0), none, none] [] σ Q))) : q_At G X_M_brokenBy (d + 1) 0 0 4 [some (.ref 159), some (.int p0), some (.int l2), some (.int l3), none, none, none] [] σ Q := by
  refine q_iload_n o_M_brokenBy_4 rfl ?_
  refine q_iconst (v := 2) o_M_brokenBy_5 (by decide) ?_
  refine q_icmp_ge o_M_brokenBy_6 (fun c1 => ?_) (fun c1 => ?_)
  · have h2 := h.1 c1
    refine q_iload_n o_M_brokenBy_112 rfl ?_
    exact q_ire o_M_brokenBy_113 rfl h2
  · have h3 := h.2 c1
    refine q_iconst (v := 0) o_M_brokenBy_9 (by decide) ?_
    refine q2_ist (ls' := [some (.ref 159), some (.int p0), some (.int l2), some (.int l3), some (.int 0), none, none]) o_M_brokenBy_10 (Nat.le_of_ble_eq_true rfl) rfl ?_
    exact h3

set_option maxRecDepth 20000 in
theorem v_M_brokenBy_12 {G : q_G} {d : Nat} {σ : q_S} {Q : Option Value → q_S → Prop} {p0 : Int32} {l2 : Int32} {l3 : Int32} {l4 : Int32}  (hs : q_Sh σ) (h : (∃ k2, (3 + l3) = nI k2 ∧ k2 < 400 ∧ (((q_I σ 165 k2) ≤ l4 → q_At G X_M_brokenBy (d + 1) 0 0 4 [some (.ref 159), some (.int p0), some (.int l2), some (.int (l3 + 1)), none, none, none] [] σ Q) ∧ (¬ (q_I σ 165 k2) ≤ l4 → (∃ k7, ((176 + (8 * l3)) + (2 * l4)) = nI k7 ∧ k7 < 400 ∧ (∃ k9, (((176 + (8 * l3)) + (2 * l4)) + 1) = nI k9 ∧ k9 < 400 ∧ q_Call G d 0 0 X_M_wallBy [.ref 159, .int p0, .int (q_I σ 165 k7), .int (q_I σ 165 k9)] σ (q_ri (fun x13 σ11 => q_At G X_M_brokenBy (d + 1) 0 0 12 [some (.ref 159), some (.int p0), some (.int (l2 ||| (if (if x13 ≤ 0 then (0 : Int32) else (1 : Int32)) = (if l3 = 0 then (1 : Int32) else (0 : Int32)) then ((1 : Int32) <<< (((4 * l3) + l4) &&& 31)) else (0 : Int32)))), some (.int l3), some (.int (l4 + 1)), none, none] [] σ11 Q)))))))) : q_At G X_M_brokenBy (d + 1) 0 0 12 [some (.ref 159), some (.int p0), some (.int l2), some (.int l3), some (.int l4), none, none] [] σ Q := by
  refine q_iload o_M_brokenBy_12 rfl ?_
  refine q_aload_n o_M_brokenBy_14 rfl ?_
  refine q2_getR hs o_M_brokenBy_15 f_M_103 rfl (fz_159_10 hs) ?_
  refine q_iconst (v := 3) o_M_brokenBy_18 (by decide) ?_
  refine q_iload_n o_M_brokenBy_19 rfl ?_
  refine q_iadd o_M_brokenBy_20 ?_
  obtain ⟨k2, eh1, bh1, h1⟩ := h
  refine q2_iald hs o_M_brokenBy_21 rfl eh1 bh1 (by decide) ?_
  refine q_icmp_ge o_M_brokenBy_22 (fun c3 => ?_) (fun c3 => ?_)
  · have h4 := h1.1 c3
    refine q2_inc (v := (l3 + 1)) (ls' := [some (.ref 159), some (.int p0), some (.int l2), some (.int (l3 + 1)), some (.int l4), none, none]) o_M_brokenBy_106 rfl rfl (Nat.le_of_ble_eq_true rfl) rfl ?_
    refine q_goto o_M_brokenBy_109 ?_
    exact q_weak (ls' := [some (.ref 159), some (.int p0), some (.int l2), some (.int (l3 + 1)), none, none, none]) (And.intro rfl (And.intro rfl (And.intro rfl (And.intro rfl trivial)))) h4
  · have h5 := h1.2 c3
    refine q_sipush (v := 176) o_M_brokenBy_25 (by decide) ?_
    refine q_bipush (v := 8) o_M_brokenBy_28 (by decide) ?_
    refine q_iload_n o_M_brokenBy_30 rfl ?_
    refine q_imul o_M_brokenBy_31 ?_
    refine q_iadd o_M_brokenBy_32 ?_
    refine q_iconst (v := 2) o_M_brokenBy_33 (by decide) ?_
    refine q_iload o_M_brokenBy_34 rfl ?_
    refine q_imul o_M_brokenBy_36 ?_
    refine q_iadd o_M_brokenBy_37 ?_
    refine q2_ist (ls' := [some (.ref 159), some (.int p0), some (.int l2), some (.int l3), some (.int l4), some (.int ((176 + (8 * l3)) + (2 * l4))), none]) o_M_brokenBy_38 (Nat.le_of_ble_eq_true rfl) rfl ?_
    refine q_aload_n o_M_brokenBy_40 rfl ?_
    refine q_iload_n o_M_brokenBy_41 rfl ?_
    refine q_aload_n o_M_brokenBy_42 rfl ?_
    refine q2_getR hs o_M_brokenBy_43 f_M_103 rfl (fz_159_10 hs) ?_
    refine q_iload o_M_brokenBy_46 rfl ?_
    obtain ⟨k7, eh6, bh6, h6⟩ := h5
    refine q2_iald hs o_M_brokenBy_48 rfl eh6 bh6 (by decide) ?_
    refine q_aload_n o_M_brokenBy_49 rfl ?_
    refine q2_getR hs o_M_brokenBy_50 f_M_103 rfl (fz_159_10 hs) ?_
    refine q_iload o_M_brokenBy_53 rfl ?_
    refine q_iconst (v := 1) o_M_brokenBy_55 (by decide) ?_
    refine q_iadd o_M_brokenBy_56 ?_
    obtain ⟨k9, eh8, bh8, h8⟩ := h6
    refine q2_iald hs o_M_brokenBy_57 rfl eh8 bh8 (by decide) ?_
    refine q2_callVi _ (a := 159) (As := [.int p0, .int (q_I σ 165 k7), .int (q_I σ 165 k9)]) (st := []) hs o_M_brokenBy_58 k_M_344 rfl rfl (Nat.le_of_ble_eq_true rfl) h8 (fun x13 σ11 hs12 h10 => ?_)
    have hJ : ∀ vJ : Int32, vJ = (if x13 ≤ 0 then (0 : Int32) else (1 : Int32)) → q_At G X_M_brokenBy (d + 1) 0 0 69 [some (.ref 159), some (.int p0), some (.int l2), some (.int l3), some (.int l4), some (.int ((176 + (8 * l3)) + (2 * l4))), none] [.int vJ] σ11 Q := by
      intro vJ eJ
      rw [eJ]
      clear eJ vJ
      refine q2_ist (ls' := [some (.ref 159), some (.int p0), some (.int l2), some (.int l3), some (.int l4), some (.int ((176 + (8 * l3)) + (2 * l4))), some (.int (if x13 ≤ 0 then (0 : Int32) else (1 : Int32)))]) o_M_brokenBy_69 (Nat.le_of_ble_eq_true rfl) rfl ?_
      refine q_iload_n o_M_brokenBy_71 rfl ?_
      refine q_iload o_M_brokenBy_72 rfl ?_
      refine q_iload_n o_M_brokenBy_74 rfl ?_
      have hJ : ∀ vJ : Int32, vJ = (if l3 = 0 then (1 : Int32) else (0 : Int32)) → q_At G X_M_brokenBy (d + 1) 0 0 83 [some (.ref 159), some (.int p0), some (.int l2), some (.int l3), some (.int l4), some (.int ((176 + (8 * l3)) + (2 * l4))), some (.int (if x13 ≤ 0 then (0 : Int32) else (1 : Int32)))] [.int vJ, .int (if x13 ≤ 0 then (0 : Int32) else (1 : Int32)), .int l2] σ11 Q := by
        intro vJ eJ
        rw [eJ]
        clear eJ vJ
        have hJ : ∀ vJ : Int32, vJ = (if (if x13 ≤ 0 then (0 : Int32) else (1 : Int32)) = (if l3 = 0 then (1 : Int32) else (0 : Int32)) then ((1 : Int32) <<< (((4 * l3) + l4) &&& 31)) else (0 : Int32)) → q_At G X_M_brokenBy (d + 1) 0 0 98 [some (.ref 159), some (.int p0), some (.int l2), some (.int l3), some (.int l4), some (.int ((176 + (8 * l3)) + (2 * l4))), some (.int (if x13 ≤ 0 then (0 : Int32) else (1 : Int32)))] [.int vJ, .int l2] σ11 Q := by
          intro vJ eJ
          rw [eJ]
          clear eJ vJ
          refine q_ior o_M_brokenBy_98 ?_
          refine q2_istn (ls' := [some (.ref 159), some (.int p0), some (.int (l2 ||| (if (if x13 ≤ 0 then (0 : Int32) else (1 : Int32)) = (if l3 = 0 then (1 : Int32) else (0 : Int32)) then ((1 : Int32) <<< (((4 * l3) + l4) &&& 31)) else (0 : Int32)))), some (.int l3), some (.int l4), some (.int ((176 + (8 * l3)) + (2 * l4))), some (.int (if x13 ≤ 0 then (0 : Int32) else (1 : Int32)))]) o_M_brokenBy_99 (Nat.le_of_ble_eq_true rfl) rfl ?_
          refine q2_inc (v := (l4 + 1)) (ls' := [some (.ref 159), some (.int p0), some (.int (l2 ||| (if (if x13 ≤ 0 then (0 : Int32) else (1 : Int32)) = (if l3 = 0 then (1 : Int32) else (0 : Int32)) then ((1 : Int32) <<< (((4 * l3) + l4) &&& 31)) else (0 : Int32)))), some (.int l3), some (.int (l4 + 1)), some (.int ((176 + (8 * l3)) + (2 * l4))), some (.int (if x13 ≤ 0 then (0 : Int32) else (1 : Int32)))]) o_M_brokenBy_100 rfl rfl (Nat.le_of_ble_eq_true rfl) rfl ?_
          refine q_goto o_M_brokenBy_103 ?_
          exact q_weak (ls' := [some (.ref 159), some (.int p0), some (.int (l2 ||| (if (if x13 ≤ 0 then (0 : Int32) else (1 : Int32)) = (if l3 = 0 then (1 : Int32) else (0 : Int32)) then ((1 : Int32) <<< (((4 * l3) + l4) &&& 31)) else (0 : Int32)))), some (.int l3), some (.int (l4 + 1)), none, none]) (And.intro rfl (And.intro rfl (And.intro rfl (And.intro rfl (And.intro rfl trivial))))) h10
        refine q_icmp_ne o_M_brokenBy_83 (fun c16 => ?_) (fun c16 => ?_)
        · refine q_iconst (v := 0) o_M_brokenBy_97 (by decide) ?_
          exact hJ _ (Eq.symm (if_neg c16))
        · refine q_iconst (v := 1) o_M_brokenBy_86 (by decide) ?_
          refine q_iconst (v := 4) o_M_brokenBy_87 (by decide) ?_
          refine q_iload_n o_M_brokenBy_88 rfl ?_
          refine q_imul o_M_brokenBy_89 ?_
          refine q_iload o_M_brokenBy_90 rfl ?_
          refine q_iadd o_M_brokenBy_92 ?_
          refine q_ishl o_M_brokenBy_93 ?_
          refine q_goto o_M_brokenBy_94 ?_
          exact hJ _ (Eq.symm (if_pos c16))
      refine q_if_ne o_M_brokenBy_75 (fun c15 => ?_) (fun c15 => ?_)
      · refine q_iconst (v := 0) o_M_brokenBy_82 (by decide) ?_
        exact hJ _ (Eq.symm (if_neg c15))
      · refine q_iconst (v := 1) o_M_brokenBy_78 (by decide) ?_
        refine q_goto o_M_brokenBy_79 ?_
        exact hJ _ (Eq.symm (if_pos c15))
    refine q_if_le o_M_brokenBy_61 (fun c14 => ?_) (fun c14 => ?_)
    · refine q_iconst (v := 0) o_M_brokenBy_68 (by decide) ?_
      exact hJ _ (Eq.symm (if_pos c14))
    · refine q_iconst (v := 1) o_M_brokenBy_64 (by decide) ?_
      refine q_goto o_M_brokenBy_65 ?_
      exact hJ _ (Eq.symm (if_neg c14))

set_option maxRecDepth 20000 in
theorem v_M_bits_0 {G : q_G} {d : Nat} {σ : q_S} {Q : Option Value → q_S → Prop} {p0 : Int32}  (hs : q_Sh σ) (h : q_At G X_M_bits d 0 0 4 [some (.int p0), some (.int 0), some (.int 0)] [] σ Q) : q_At G X_M_bits d 0 0 0 [some (.int p0), none, none] [] σ Q := by
  refine q_iconst (v := 0) o_M_bits_0 (by decide) ?_
  refine q2_istn (ls' := [some (.int p0), some (.int 0), none]) o_M_bits_1 (Nat.le_of_ble_eq_true rfl) rfl ?_
  refine q_iconst (v := 0) o_M_bits_2 (by decide) ?_
  refine q2_istn (ls' := [some (.int p0), some (.int 0), some (.int 0)]) o_M_bits_3 (Nat.le_of_ble_eq_true rfl) rfl ?_
  exact h

set_option maxRecDepth 20000 in
theorem v_M_bits_4 {G : q_G} {d : Nat} {σ : q_S} {Q : Option Value → q_S → Prop} {p0 : Int32} {l1 : Int32} {l2 : Int32}  (hs : q_Sh σ) (h : ((30 ≤ l2 → Q (some (.int l1)) σ) ∧ (¬ 30 ≤ l2 → q_At G X_M_bits d 0 0 4 [some (.int p0), some (.int (l1 + ((p0 >>> (l2 &&& 31)) &&& 1))), some (.int (l2 + 1))] [] σ Q))) : q_At G X_M_bits d 0 0 4 [some (.int p0), some (.int l1), some (.int l2)] [] σ Q := by
  refine q_iload_n o_M_bits_4 rfl ?_
  refine q_bipush (v := 30) o_M_bits_5 (by decide) ?_
  refine q_icmp_ge o_M_bits_7 (fun c1 => ?_) (fun c1 => ?_)
  · have h2 := h.1 c1
    refine q_iload_n o_M_bits_24 rfl ?_
    exact q_ire o_M_bits_25 rfl h2
  · have h3 := h.2 c1
    refine q_iload_n o_M_bits_10 rfl ?_
    refine q_iload_n o_M_bits_11 rfl ?_
    refine q_iload_n o_M_bits_12 rfl ?_
    refine q_ishr o_M_bits_13 ?_
    refine q_iconst (v := 1) o_M_bits_14 (by decide) ?_
    refine q_iand o_M_bits_15 ?_
    refine q_iadd o_M_bits_16 ?_
    refine q2_istn (ls' := [some (.int p0), some (.int (l1 + ((p0 >>> (l2 &&& 31)) &&& 1))), some (.int l2)]) o_M_bits_17 (Nat.le_of_ble_eq_true rfl) rfl ?_
    refine q2_inc (v := (l2 + 1)) (ls' := [some (.int p0), some (.int (l1 + ((p0 >>> (l2 &&& 31)) &&& 1))), some (.int (l2 + 1))]) o_M_bits_18 rfl rfl (Nat.le_of_ble_eq_true rfl) rfl ?_
    refine q_goto o_M_bits_21 ?_
    exact h3

set_option maxRecDepth 20000 in
theorem v_M_house_0 {G : q_G} {d : Nat} {σ : q_S} {Q : Option Value → q_S → Prop} {p0 : Int32}  (hs : q_Sh σ) (h : q_At G X_M_house (d + 1) 0 0 9 [some (.ref 159), some (.int p0), some (.int (-1)), some (.int 0)] [] (q_setI σ 159 0 0) Q) : q_At G X_M_house (d + 1) 0 0 0 [some (.ref 159), some (.int p0), none, none] [] σ Q := by
  refine q_aload_n o_M_house_0 rfl ?_
  refine q_iconst (v := 0) o_M_house_1 (by decide) ?_
  refine q2_putI hs o_M_house_2 fp_M_1 rfl rfl rfl ?_
  refine q_iconst (v := (-1)) o_M_house_5 (by decide) ?_
  refine q2_istn (ls' := [some (.ref 159), some (.int p0), some (.int (-1)), none]) o_M_house_6 (Nat.le_of_ble_eq_true rfl) rfl ?_
  refine q_iconst (v := 0) o_M_house_7 (by decide) ?_
  refine q2_istn (ls' := [some (.ref 159), some (.int p0), some (.int (-1)), some (.int 0)]) o_M_house_8 (Nat.le_of_ble_eq_true rfl) rfl ?_
  exact h

set_option maxRecDepth 20000 in
theorem v_M_house_9 {G : q_G} {d : Nat} {σ : q_S} {Q : Option Value → q_S → Prop} {p0 : Int32} {l2 : Int32} {l3 : Int32}  (hs : q_Sh σ) (h : (((q_I σ 165 1) ≤ l3 → Q (some (.int l2)) σ) ∧ (¬ (q_I σ 165 1) ≤ l3 → q_Call G d 0 0 X_M_isHouse [.ref 159, .int p0] σ (q_ri (fun x7 σ5 => ((x7 = 0 → q_At G X_M_house (d + 1) 0 0 9 [some (.ref 159), some (.int p0), some (.int l2), some (.int (l3 + 1))] [] σ5 Q) ∧ (¬ x7 = 0 → (∃ k12, (0 + l3) = nI k12 ∧ k12 < 1886 ∧ q_At G X_M_house (d + 1) 0 0 9 [some (.ref 159), some (.int p0), some (.int (if (q_I σ5 175 k12) = p0 then l3 else l2)), some (.int (l3 + 1))] [] σ5 Q)))))))) : q_At G X_M_house (d + 1) 0 0 9 [some (.ref 159), some (.int p0), some (.int l2), some (.int l3)] [] σ Q := by
  refine q_iload_n o_M_house_9 rfl ?_
  refine q_aload_n o_M_house_10 rfl ?_
  refine q2_M_families hs o_M_house_11 k_M_309 (Nat.le_of_ble_eq_true rfl) ?_
  refine q_icmp_ge o_M_house_14 (fun c1 => ?_) (fun c1 => ?_)
  · have h2 := h.1 c1
    refine q_iload_n o_M_house_49 rfl ?_
    exact q_ire o_M_house_50 rfl h2
  · have h3 := h.2 c1
    refine q_aload_n o_M_house_17 rfl ?_
    refine q_iload_n o_M_house_18 rfl ?_
    refine q2_callVi _ (a := 159) (As := [.int p0]) (st := []) hs o_M_house_19 k_M_356 rfl rfl (Nat.le_of_ble_eq_true rfl) h3 (fun x7 σ5 hs6 h4 => ?_)
    refine q_if_eq o_M_house_22 (fun c8 => ?_) (fun c8 => ?_)
    · have h9 := h4.1 c8
      refine q_iload_n o_M_house_41 rfl ?_
      refine q2_istn (ls' := [some (.ref 159), some (.int p0), some (.int l2), some (.int l3)]) o_M_house_42 (Nat.le_of_ble_eq_true rfl) rfl ?_
      refine q2_inc (v := (l3 + 1)) (ls' := [some (.ref 159), some (.int p0), some (.int l2), some (.int (l3 + 1))]) o_M_house_43 rfl rfl (Nat.le_of_ble_eq_true rfl) rfl ?_
      refine q_goto o_M_house_46 ?_
      exact h9
    · have h10 := h4.2 c8
      refine q_aload_n o_M_house_25 rfl ?_
      refine q2_getR hs6 o_M_house_26 f_M_133 rfl (fz_159_24 hs6) ?_
      refine q_iconst (v := 0) o_M_house_29 (by decide) ?_
      refine q_iload_n o_M_house_30 rfl ?_
      refine q_iadd o_M_house_31 ?_
      obtain ⟨k12, eh11, bh11, h11⟩ := h10
      refine q2_iald hs6 o_M_house_32 rfl eh11 bh11 (by decide) ?_
      refine q_iload_n o_M_house_33 rfl ?_
      have hJ : ∀ vJ : Int32, vJ = (if (q_I σ5 175 k12) = p0 then l3 else l2) → q_At G X_M_house (d + 1) 0 0 42 [some (.ref 159), some (.int p0), some (.int l2), some (.int l3)] [.int vJ] σ5 Q := by
        intro vJ eJ
        rw [eJ]
        clear eJ vJ
        refine q2_istn (ls' := [some (.ref 159), some (.int p0), some (.int (if (q_I σ5 175 k12) = p0 then l3 else l2)), some (.int l3)]) o_M_house_42 (Nat.le_of_ble_eq_true rfl) rfl ?_
        refine q2_inc (v := (l3 + 1)) (ls' := [some (.ref 159), some (.int p0), some (.int (if (q_I σ5 175 k12) = p0 then l3 else l2)), some (.int (l3 + 1))]) o_M_house_43 rfl rfl (Nat.le_of_ble_eq_true rfl) rfl ?_
        refine q_goto o_M_house_46 ?_
        exact h11
      refine q_icmp_ne o_M_house_34 (fun c13 => ?_) (fun c13 => ?_)
      · refine q_iload_n o_M_house_41 rfl ?_
        exact hJ _ (Eq.symm (if_neg c13))
      · refine q_iload_n o_M_house_37 rfl ?_
        refine q_goto o_M_house_38 ?_
        exact hJ _ (Eq.symm (if_pos c13))

set_option maxRecDepth 20000 in
theorem v_M_wall_0 {G : q_G} {d : Nat} {σ : q_S} {Q : Option Value → q_S → Prop} {p0 : Int32} {p1 : Int32}  (hs : q_Sh σ) (h : q_Call G d 0 0 X_M_isHouse [.ref 159, .int p0] (q_setI σ 159 0 0) (q_ri (fun x4 σ2 => ((x4 = 0 → Q (some (.int (-1))) σ2) ∧ (¬ x4 = 0 → q_Call G d 0 0 X_M_isHouse [.ref 159, .int p1] σ2 (q_ri (fun x12 σ10 => ((x12 = 0 → Q (some (.int (-1))) σ10) ∧ (¬ x12 = 0 → (∃ k18, ((8 + (6 * p0)) + p1) = nI k18 ∧ k18 < 400 ∧ (((if (q_I σ10 165 k18) ≤ 0 then (0 : Int32) else (1 : Int32)) = 0 → Q (some (.int (-1))) σ10) ∧ (¬ (if (q_I σ10 165 k18) ≤ 0 then (0 : Int32) else (1 : Int32)) = 0 → (∃ k24, ((8 + (6 * p0)) + p1) = nI k24 ∧ k24 < 400 ∧ Q (some (.int (q_I σ10 165 k24))) σ10))))))))))))) : q_At G X_M_wall (d + 1) 0 0 0 [some (.ref 159), some (.int p0), some (.int p1), none] [] σ Q := by
  refine q_aload_n o_M_wall_0 rfl ?_
  refine q_iconst (v := 0) o_M_wall_1 (by decide) ?_
  refine q2_putI hs o_M_wall_2 fp_M_1 rfl rfl rfl ?_
  refine q_aload_n o_M_wall_5 rfl ?_
  refine q_iload_n o_M_wall_6 rfl ?_
  refine q2_callVi _ (a := 159) (As := [.int p0]) (st := []) hs o_M_wall_7 k_M_356 rfl rfl (Nat.le_of_ble_eq_true rfl) h (fun x4 σ2 hs3 h1 => ?_)
  refine q_if_eq o_M_wall_10 (fun c5 => ?_) (fun c5 => ?_)
  · have h6 := h1.1 c5
    refine q_iconst (v := 0) o_M_wall_42 (by decide) ?_
    refine q2_istn (ls' := [some (.ref 159), some (.int p0), some (.int p1), some (.int 0)]) o_M_wall_43 (Nat.le_of_ble_eq_true rfl) rfl ?_
    refine q_iload_n o_M_wall_44 rfl ?_
    refine q_if_eq o_M_wall_45 (fun _ => ?_) (fun c7 => absurd c7 (by decide))
    refine q_iconst (v := (-1)) o_M_wall_65 (by decide) ?_
    exact q_ire o_M_wall_66 rfl h6
  · have h8 := h1.2 c5
    refine q_aload_n o_M_wall_13 rfl ?_
    refine q_iload_n o_M_wall_14 rfl ?_
    refine q2_callVi _ (a := 159) (As := [.int p1]) (st := []) hs3 o_M_wall_15 k_M_356 rfl rfl (Nat.le_of_ble_eq_true rfl) h8 (fun x12 σ10 hs11 h9 => ?_)
    refine q_if_eq o_M_wall_18 (fun c13 => ?_) (fun c13 => ?_)
    · have h14 := h9.1 c13
      refine q_iconst (v := 0) o_M_wall_42 (by decide) ?_
      refine q2_istn (ls' := [some (.ref 159), some (.int p0), some (.int p1), some (.int 0)]) o_M_wall_43 (Nat.le_of_ble_eq_true rfl) rfl ?_
      refine q_iload_n o_M_wall_44 rfl ?_
      refine q_if_eq o_M_wall_45 (fun _ => ?_) (fun c15 => absurd c15 (by decide))
      refine q_iconst (v := (-1)) o_M_wall_65 (by decide) ?_
      exact q_ire o_M_wall_66 rfl h14
    · have h16 := h9.2 c13
      refine q_aload_n o_M_wall_21 rfl ?_
      refine q2_getR hs11 o_M_wall_22 f_M_103 rfl (fz_159_10 hs11) ?_
      refine q_bipush (v := 8) o_M_wall_25 (by decide) ?_
      refine q_bipush (v := 6) o_M_wall_27 (by decide) ?_
      refine q_iload_n o_M_wall_29 rfl ?_
      refine q_imul o_M_wall_30 ?_
      refine q_iadd o_M_wall_31 ?_
      refine q_iload_n o_M_wall_32 rfl ?_
      refine q_iadd o_M_wall_33 ?_
      obtain ⟨k18, eh17, bh17, h17⟩ := h16
      refine q2_iald hs11 o_M_wall_34 rfl eh17 bh17 (by decide) ?_
      have hJ : ∀ vJ : Int32, vJ = (if (q_I σ10 165 k18) ≤ 0 then (0 : Int32) else (1 : Int32)) → q_At G X_M_wall (d + 1) 0 0 43 [some (.ref 159), some (.int p0), some (.int p1), none] [.int vJ] σ10 Q := by
        intro vJ eJ
        rw [eJ]
        clear eJ vJ
        refine q2_istn (ls' := [some (.ref 159), some (.int p0), some (.int p1), some (.int (if (q_I σ10 165 k18) ≤ 0 then (0 : Int32) else (1 : Int32)))]) o_M_wall_43 (Nat.le_of_ble_eq_true rfl) rfl ?_
        refine q_iload_n o_M_wall_44 rfl ?_
        refine q_if_eq o_M_wall_45 (fun c20 => ?_) (fun c20 => ?_)
        · have h21 := h17.1 c20
          refine q_iconst (v := (-1)) o_M_wall_65 (by decide) ?_
          exact q_ire o_M_wall_66 rfl h21
        · have h22 := h17.2 c20
          refine q_aload_n o_M_wall_48 rfl ?_
          refine q2_getR hs11 o_M_wall_49 f_M_103 rfl (fz_159_10 hs11) ?_
          refine q_bipush (v := 8) o_M_wall_52 (by decide) ?_
          refine q_bipush (v := 6) o_M_wall_54 (by decide) ?_
          refine q_iload_n o_M_wall_56 rfl ?_
          refine q_imul o_M_wall_57 ?_
          refine q_iadd o_M_wall_58 ?_
          refine q_iload_n o_M_wall_59 rfl ?_
          refine q_iadd o_M_wall_60 ?_
          obtain ⟨k24, eh23, bh23, h23⟩ := h22
          refine q2_iald hs11 o_M_wall_61 rfl eh23 bh23 (by decide) ?_
          refine q_goto o_M_wall_62 ?_
          exact q_ire o_M_wall_66 rfl h23
      refine q_if_le o_M_wall_35 (fun c19 => ?_) (fun c19 => ?_)
      · refine q_iconst (v := 0) o_M_wall_42 (by decide) ?_
        exact hJ _ (Eq.symm (if_pos c19))
      · refine q_iconst (v := 1) o_M_wall_38 (by decide) ?_
        refine q_goto o_M_wall_39 ?_
        exact hJ _ (Eq.symm (if_neg c19))

set_option maxRecDepth 20000 in
theorem v_M_nearOf_0 {G : q_G} {d : Nat} {σ : q_S} {Q : Option Value → q_S → Prop} {p0 : Int32}  (hs : q_Sh σ) (h : q_At G X_M_nearOf (d + 1) 0 0 4 [some (.ref 159), some (.int p0), some (.int 0), some (.int 0)] [] σ Q) : q_At G X_M_nearOf (d + 1) 0 0 0 [some (.ref 159), some (.int p0), none, none] [] σ Q := by
  refine q_iconst (v := 0) o_M_nearOf_0 (by decide) ?_
  refine q2_istn (ls' := [some (.ref 159), some (.int p0), some (.int 0), none]) o_M_nearOf_1 (Nat.le_of_ble_eq_true rfl) rfl ?_
  refine q_iconst (v := 0) o_M_nearOf_2 (by decide) ?_
  refine q2_istn (ls' := [some (.ref 159), some (.int p0), some (.int 0), some (.int 0)]) o_M_nearOf_3 (Nat.le_of_ble_eq_true rfl) rfl ?_
  exact h

set_option maxRecDepth 20000 in
theorem v_M_nearOf_4 {G : q_G} {d : Nat} {σ : q_S} {Q : Option Value → q_S → Prop} {p0 : Int32} {l2 : Int32} {l3 : Int32}  (hs : q_Sh σ) (h : (((q_I σ 165 1) ≤ l3 → Q (some (.int l2)) σ) ∧ (¬ (q_I σ 165 1) ≤ l3 → ((l3 = p0 → q_At G X_M_nearOf (d + 1) 0 0 4 [some (.ref 159), some (.int p0), some (.int (l2 ||| 0)), some (.int (l3 + 1))] [] σ Q) ∧ (¬ l3 = p0 → q_Call G d 0 0 X_M_wallBy [.ref 159, .int 0, .int p0, .int l3] σ (q_ri (fun x10 σ8 => q_At G X_M_nearOf (d + 1) 0 0 4 [some (.ref 159), some (.int p0), some (.int (l2 ||| (if x10 ≤ 0 then (0 : Int32) else ((1 : Int32) <<< (l3 &&& 31))))), some (.int (l3 + 1))] [] σ8 Q))))))) : q_At G X_M_nearOf (d + 1) 0 0 4 [some (.ref 159), some (.int p0), some (.int l2), some (.int l3)] [] σ Q := by
  refine q_iload_n o_M_nearOf_4 rfl ?_
  refine q_aload_n o_M_nearOf_5 rfl ?_
  refine q2_M_families hs o_M_nearOf_6 k_M_309 (Nat.le_of_ble_eq_true rfl) ?_
  refine q_icmp_ge o_M_nearOf_9 (fun c1 => ?_) (fun c1 => ?_)
  · have h2 := h.1 c1
    refine q_iload_n o_M_nearOf_43 rfl ?_
    exact q_ire o_M_nearOf_44 rfl h2
  · have h3 := h.2 c1
    refine q_iload_n o_M_nearOf_12 rfl ?_
    refine q_iload_n o_M_nearOf_13 rfl ?_
    refine q_iload_n o_M_nearOf_14 rfl ?_
    refine q_icmp_eq o_M_nearOf_15 (fun c4 => ?_) (fun c4 => ?_)
    · have h5 := h3.1 c4
      refine q_iconst (v := 0) o_M_nearOf_34 (by decide) ?_
      refine q_ior o_M_nearOf_35 ?_
      refine q2_istn (ls' := [some (.ref 159), some (.int p0), some (.int (l2 ||| 0)), some (.int l3)]) o_M_nearOf_36 (Nat.le_of_ble_eq_true rfl) rfl ?_
      refine q2_inc (v := (l3 + 1)) (ls' := [some (.ref 159), some (.int p0), some (.int (l2 ||| 0)), some (.int (l3 + 1))]) o_M_nearOf_37 rfl rfl (Nat.le_of_ble_eq_true rfl) rfl ?_
      refine q_goto o_M_nearOf_40 ?_
      exact h5
    · have h6 := h3.2 c4
      refine q_aload_n o_M_nearOf_18 rfl ?_
      refine q_iconst (v := 0) o_M_nearOf_19 (by decide) ?_
      refine q_iload_n o_M_nearOf_20 rfl ?_
      refine q_iload_n o_M_nearOf_21 rfl ?_
      refine q2_callVi _ (a := 159) (As := [.int 0, .int p0, .int l3]) (st := [.int l2]) hs o_M_nearOf_22 k_M_344 rfl rfl (Nat.le_of_ble_eq_true rfl) h6 (fun x10 σ8 hs9 h7 => ?_)
      have hJ : ∀ vJ : Int32, vJ = (if x10 ≤ 0 then (0 : Int32) else ((1 : Int32) <<< (l3 &&& 31))) → q_At G X_M_nearOf (d + 1) 0 0 35 [some (.ref 159), some (.int p0), some (.int l2), some (.int l3)] [.int vJ, .int l2] σ8 Q := by
        intro vJ eJ
        rw [eJ]
        clear eJ vJ
        refine q_ior o_M_nearOf_35 ?_
        refine q2_istn (ls' := [some (.ref 159), some (.int p0), some (.int (l2 ||| (if x10 ≤ 0 then (0 : Int32) else ((1 : Int32) <<< (l3 &&& 31))))), some (.int l3)]) o_M_nearOf_36 (Nat.le_of_ble_eq_true rfl) rfl ?_
        refine q2_inc (v := (l3 + 1)) (ls' := [some (.ref 159), some (.int p0), some (.int (l2 ||| (if x10 ≤ 0 then (0 : Int32) else ((1 : Int32) <<< (l3 &&& 31))))), some (.int (l3 + 1))]) o_M_nearOf_37 rfl rfl (Nat.le_of_ble_eq_true rfl) rfl ?_
        refine q_goto o_M_nearOf_40 ?_
        exact h7
      refine q_if_le o_M_nearOf_25 (fun c11 => ?_) (fun c11 => ?_)
      · refine q_iconst (v := 0) o_M_nearOf_34 (by decide) ?_
        exact hJ _ (Eq.symm (if_pos c11))
      · refine q_iconst (v := 1) o_M_nearOf_28 (by decide) ?_
        refine q_iload_n o_M_nearOf_29 rfl ?_
        refine q_ishl o_M_nearOf_30 ?_
        refine q_goto o_M_nearOf_31 ?_
        exact hJ _ (Eq.symm (if_neg c11))

set_option maxRecDepth 20000 in
theorem v_M_family_0 {G : q_G} {d : Nat} {σ : q_S} {Q : Option Value → q_S → Prop} {p0 : Int32} {p1 : Int32}  (hs : q_Sh σ) (h : q_Call G d 0 0 X_M_isFamily [.ref 159, .int p0] (q_setI σ 159 0 0) (q_ri (fun x4 σ2 => ((x4 = 0 → Q (some (.int (-1))) σ2) ∧ (¬ x4 = 0 → q_Call G d 0 0 X_M_within [.int p1, .int 0, .int 7] σ2 (q_ri (fun x11 σ9 => ((¬ x11 = 0 → (((p1.toInt < 1 ∨ 7 < p1.toInt) → q_Call G d 0 0 X_M_familyOf [.ref 159, .int p0, .int p1] σ9 (q_ri (fun x18 σ16 => Q (some (.int x18)) σ16))) ∧ ((p1.toInt = 1 → q_Call G d 0 0 X_M_loudOf [.ref 159, .int p0] σ9 (q_ri (fun x24 σ22 => Q (some (.int x24)) σ22))) ∧ (p1.toInt = 2 → q_Call G d 0 0 X_M_hearingOf [.ref 159, .int p0] σ9 (q_ri (fun x29 σ27 => Q (some (.int x29)) σ27))) ∧ (p1.toInt = 3 → (∃ k32, (6 + p0) = nI k32 ∧ k32 < 1886 ∧ Q (some (.int (q_I σ9 175 k32))) σ9)) ∧ (p1.toInt = 4 → (∃ k35, (0 + p0) = nI k35 ∧ k35 < 1886 ∧ Q (some (.int (q_I σ9 175 k35))) σ9)) ∧ (p1.toInt = 5 → q_Call G d 0 0 X_M_nearOf [.ref 159, .int p0] σ9 (q_ri (fun x40 σ38 => Q (some (.int x40)) σ38))) ∧ (p1.toInt = 6 → q_Call G d 0 0 X_M_feltBy [.ref 159, .int 0, .int p0] σ9 (q_ri (fun x45 σ43 => Q (some (.int x45)) σ43))) ∧ (p1.toInt = 7 → q_Call G d 0 0 X_M_joyBy [.ref 159, .int 0, .int p0] σ9 (q_ri (fun x50 σ48 => Q (some (.int (if x50 < 0 then (0 : Int32) else (1 : Int32)))) σ48)))))) ∧ (x11 = 0 → Q (some (.int (-1))) σ9))))))))) : q_At G X_M_family (d + 1) 0 0 0 [some (.ref 159), some (.int p0), some (.int p1)] [] σ Q := by
  refine q_aload_n o_M_family_0 rfl ?_
  refine q_iconst (v := 0) o_M_family_1 (by decide) ?_
  refine q2_putI hs o_M_family_2 fp_M_1 rfl rfl rfl ?_
  refine q_aload_n o_M_family_5 rfl ?_
  refine q_iload_n o_M_family_6 rfl ?_
  refine q2_callVi _ (a := 159) (As := [.int p0]) (st := []) hs o_M_family_7 k_M_332 rfl rfl (Nat.le_of_ble_eq_true rfl) h (fun x4 σ2 hs3 h1 => ?_)
  refine q_if_eq o_M_family_10 (fun c5 => ?_) (fun c5 => ?_)
  · have h6 := h1.1 c5
    refine q_iconst (v := (-1)) o_M_family_23 (by decide) ?_
    exact q_ire o_M_family_24 rfl h6
  · have h7 := h1.2 c5
    refine q_iload_n o_M_family_13 rfl ?_
    refine q_iconst (v := 0) o_M_family_14 (by decide) ?_
    refine q_bipush (v := 7) o_M_family_15 (by decide) ?_
    refine q2_callSi _ (As := [.int p1, .int 0, .int 7]) (st := []) hs3 o_M_family_17 k_M_227 rfl (Nat.le_of_ble_eq_true rfl) h7 (fun x11 σ9 hs10 h8 => ?_)
    refine q_if_ne o_M_family_20 (fun c12 => ?_) (fun c12 => ?_)
    · have h13 := h8.1 c12
      refine q_iload_n o_M_family_25 rfl ?_
      rcases q_sw 1 7 p1 with c0 | ⟨kk, c1, c2, c3⟩
      · have h14 := h13.1 c0
        refine q_tabOut (tgt := 127) o_M_family_26 c0 (by decide) ?_
        refine q_aload_n o_M_family_127 rfl ?_
        refine q_iload_n o_M_family_128 rfl ?_
        refine q_iload_n o_M_family_129 rfl ?_
        refine q2_callVi _ (a := 159) (As := [.int p0, .int p1]) (st := []) hs10 o_M_family_130 k_M_313 rfl rfl (Nat.le_of_ble_eq_true rfl) h14 (fun x18 σ16 hs17 h15 => ?_)
        exact q_ire o_M_family_133 rfl h15
      · have h19 := h13.2
        have hx : p1.toInt = 1 + (kk : Int) := c3
        have hkk : kk = 0 ∨ kk = 1 ∨ kk = 2 ∨ kk = 3 ∨ kk = 4 ∨ kk = 5 ∨ kk = 6 := by omega
        rcases hkk with rfl | rfl | rfl | rfl | rfl | rfl | rfl
        · have h20 := h19.1 (by simpa using hx)
          refine q_tabIn (tgt := 68) (off := 42) o_M_family_26 c1 c2 (by rw [show p1.toInt = 1 by simpa using hx]; rfl) (by decide) ?_
          refine q_aload_n o_M_family_68 rfl ?_
          refine q_iload_n o_M_family_69 rfl ?_
          refine q2_callVi _ (a := 159) (As := [.int p0]) (st := []) hs10 o_M_family_70 k_M_335 rfl rfl (Nat.le_of_ble_eq_true rfl) h20 (fun x24 σ22 hs23 h21 => ?_)
          exact q_ire o_M_family_73 rfl h21
        · have h25 := h19.2.1 (by simpa using hx)
          refine q_tabIn (tgt := 74) (off := 48) o_M_family_26 c1 c2 (by rw [show p1.toInt = 2 by simpa using hx]; rfl) (by decide) ?_
          refine q_aload_n o_M_family_74 rfl ?_
          refine q_iload_n o_M_family_75 rfl ?_
          refine q2_callVi _ (a := 159) (As := [.int p0]) (st := []) hs10 o_M_family_76 k_M_338 rfl rfl (Nat.le_of_ble_eq_true rfl) h25 (fun x29 σ27 hs28 h26 => ?_)
          exact q_ire o_M_family_79 rfl h26
        · have h30 := h19.2.2.1 (by simpa using hx)
          refine q_tabIn (tgt := 80) (off := 54) o_M_family_26 c1 c2 (by rw [show p1.toInt = 3 by simpa using hx]; rfl) (by decide) ?_
          refine q_aload_n o_M_family_80 rfl ?_
          refine q2_getR hs10 o_M_family_81 f_M_133 rfl (fz_159_24 hs10) ?_
          refine q_bipush (v := 6) o_M_family_84 (by decide) ?_
          refine q_iload_n o_M_family_86 rfl ?_
          refine q_iadd o_M_family_87 ?_
          obtain ⟨k32, eh31, bh31, h31⟩ := h30
          refine q2_iald hs10 o_M_family_88 rfl eh31 bh31 (by decide) ?_
          exact q_ire o_M_family_89 rfl h31
        · have h33 := h19.2.2.2.1 (by simpa using hx)
          refine q_tabIn (tgt := 90) (off := 64) o_M_family_26 c1 c2 (by rw [show p1.toInt = 4 by simpa using hx]; rfl) (by decide) ?_
          refine q_aload_n o_M_family_90 rfl ?_
          refine q2_getR hs10 o_M_family_91 f_M_133 rfl (fz_159_24 hs10) ?_
          refine q_iconst (v := 0) o_M_family_94 (by decide) ?_
          refine q_iload_n o_M_family_95 rfl ?_
          refine q_iadd o_M_family_96 ?_
          obtain ⟨k35, eh34, bh34, h34⟩ := h33
          refine q2_iald hs10 o_M_family_97 rfl eh34 bh34 (by decide) ?_
          exact q_ire o_M_family_98 rfl h34
        · have h36 := h19.2.2.2.2.1 (by simpa using hx)
          refine q_tabIn (tgt := 99) (off := 73) o_M_family_26 c1 c2 (by rw [show p1.toInt = 5 by simpa using hx]; rfl) (by decide) ?_
          refine q_aload_n o_M_family_99 rfl ?_
          refine q_iload_n o_M_family_100 rfl ?_
          refine q2_callVi _ (a := 159) (As := [.int p0]) (st := []) hs10 o_M_family_101 k_M_359 rfl rfl (Nat.le_of_ble_eq_true rfl) h36 (fun x40 σ38 hs39 h37 => ?_)
          exact q_ire o_M_family_104 rfl h37
        · have h41 := h19.2.2.2.2.2.1 (by simpa using hx)
          refine q_tabIn (tgt := 105) (off := 79) o_M_family_26 c1 c2 (by rw [show p1.toInt = 6 by simpa using hx]; rfl) (by decide) ?_
          refine q_aload_n o_M_family_105 rfl ?_
          refine q_iconst (v := 0) o_M_family_106 (by decide) ?_
          refine q_iload_n o_M_family_107 rfl ?_
          refine q2_callVi _ (a := 159) (As := [.int 0, .int p0]) (st := []) hs10 o_M_family_108 k_M_350 rfl rfl (Nat.le_of_ble_eq_true rfl) h41 (fun x45 σ43 hs44 h42 => ?_)
          exact q_ire o_M_family_111 rfl h42
        · have h46 := h19.2.2.2.2.2.2 (by simpa using hx)
          refine q_tabIn (tgt := 112) (off := 86) o_M_family_26 c1 c2 (by rw [show p1.toInt = 7 by simpa using hx]; rfl) (by decide) ?_
          refine q_aload_n o_M_family_112 rfl ?_
          refine q_iconst (v := 0) o_M_family_113 (by decide) ?_
          refine q_iload_n o_M_family_114 rfl ?_
          refine q2_callVi _ (a := 159) (As := [.int 0, .int p0]) (st := []) hs10 o_M_family_115 k_M_353 rfl rfl (Nat.le_of_ble_eq_true rfl) h46 (fun x50 σ48 hs49 h47 => ?_)
          have hJ : ∀ vJ : Int32, vJ = (if x50 < 0 then (0 : Int32) else (1 : Int32)) → q_At G X_M_family (d + 1) 0 0 126 [some (.ref 159), some (.int p0), some (.int p1)] [.int vJ] σ48 Q := by
            intro vJ eJ
            rw [eJ]
            clear eJ vJ
            exact q_ire o_M_family_126 rfl h47
          refine q_if_lt o_M_family_118 (fun c51 => ?_) (fun c51 => ?_)
          · refine q_iconst (v := 0) o_M_family_125 (by decide) ?_
            exact hJ _ (Eq.symm (if_pos c51))
          · refine q_iconst (v := 1) o_M_family_121 (by decide) ?_
            refine q_goto o_M_family_122 ?_
            exact hJ _ (Eq.symm (if_neg c51))
    · have h52 := h8.2 c12
      refine q_iconst (v := (-1)) o_M_family_23 (by decide) ?_
      exact q_ire o_M_family_24 rfl h52

set_option maxRecDepth 20000 in
theorem v_M_joy_0 {G : q_G} {d : Nat} {σ : q_S} {Q : Option Value → q_S → Prop} {p0 : Int32}  (hs : q_Sh σ) (h : q_Call G d 0 0 X_M_isFamily [.ref 159, .int p0] σ (q_ri (fun x4 σ2 => (((q_I (q_setI σ2 159 0 (if x4 = 0 then (1 : Int32) else (0 : Int32))) 159 0) ≤ 0 → q_Call G d 0 0 X_M_joyBy [.ref 159, .int 0, .int p0] (q_setI σ2 159 0 (if x4 = 0 then (1 : Int32) else (0 : Int32))) (q_ri (fun x11 σ9 => Q (some (.int x11)) σ9))) ∧ (¬ (q_I (q_setI σ2 159 0 (if x4 = 0 then (1 : Int32) else (0 : Int32))) 159 0) ≤ 0 → Q (some (.int 0)) (q_setI σ2 159 0 (if x4 = 0 then (1 : Int32) else (0 : Int32)))))))) : q_At G X_M_joy (d + 1) 0 0 0 [some (.ref 159), some (.int p0)] [] σ Q := by
  refine q_aload_n o_M_joy_0 rfl ?_
  refine q_aload_n o_M_joy_1 rfl ?_
  refine q_iload_n o_M_joy_2 rfl ?_
  refine q2_callVi _ (a := 159) (As := [.int p0]) (st := [.ref 159]) hs o_M_joy_3 k_M_332 rfl rfl (Nat.le_of_ble_eq_true rfl) h (fun x4 σ2 hs3 h1 => ?_)
  have hJ : ∀ vJ : Int32, vJ = (if x4 = 0 then (1 : Int32) else (0 : Int32)) → q_At G X_M_joy (d + 1) 0 0 14 [some (.ref 159), some (.int p0)] [.int vJ, .ref 159] σ2 Q := by
    intro vJ eJ
    rw [eJ]
    clear eJ vJ
    refine q2_putI hs3 o_M_joy_14 fp_M_1 rfl rfl rfl ?_
    refine q_aload_n o_M_joy_17 rfl ?_
    refine q2_getI hs3 o_M_joy_18 f_M_1 rfl ?_
    refine q_if_le o_M_joy_21 (fun c6 => ?_) (fun c6 => ?_)
    · have h7 := h1.1 c6
      refine q_aload_n o_M_joy_28 rfl ?_
      refine q_iconst (v := 0) o_M_joy_29 (by decide) ?_
      refine q_iload_n o_M_joy_30 rfl ?_
      refine q2_callVi _ (a := 159) (As := [.int 0, .int p0]) (st := []) hs3 o_M_joy_31 k_M_353 rfl rfl (Nat.le_of_ble_eq_true rfl) h7 (fun x11 σ9 hs10 h8 => ?_)
      exact q_ire o_M_joy_34 rfl h8
    · have h12 := h1.2 c6
      refine q_iconst (v := 0) o_M_joy_24 (by decide) ?_
      refine q_goto o_M_joy_25 ?_
      exact q_ire o_M_joy_34 rfl h12
  refine q_if_eq o_M_joy_6 (fun c5 => ?_) (fun c5 => ?_)
  · refine q_iconst (v := 1) o_M_joy_13 (by decide) ?_
    exact hJ _ (Eq.symm (if_pos c5))
  · refine q_iconst (v := 0) o_M_joy_9 (by decide) ?_
    refine q_goto o_M_joy_10 ?_
    exact hJ _ (Eq.symm (if_neg c5))

set_option maxRecDepth 20000 in
theorem v_M_owes_0 {G : q_G} {d : Nat} {σ : q_S} {Q : Option Value → q_S → Prop} {p0 : Int32} {p1 : Int32}  (hs : q_Sh σ) (h : q_Call G d 0 0 X_M_areTwo [.ref 159, .int p0, .int p1] (q_setI σ 159 0 0) (q_ri (fun x4 σ2 => ((x4 = 0 → Q (some (.int (-1))) σ2) ∧ (¬ x4 = 0 → (∃ k9, ((12 + (6 * p0)) + p1) = nI k9 ∧ k9 < 1886 ∧ Q (some (.int (q_I σ2 175 k9))) σ2)))))) : q_At G X_M_owes (d + 1) 0 0 0 [some (.ref 159), some (.int p0), some (.int p1)] [] σ Q := by
  refine q_aload_n o_M_owes_0 rfl ?_
  refine q_iconst (v := 0) o_M_owes_1 (by decide) ?_
  refine q2_putI hs o_M_owes_2 fp_M_1 rfl rfl rfl ?_
  refine q_aload_n o_M_owes_5 rfl ?_
  refine q_iload_n o_M_owes_6 rfl ?_
  refine q_iload_n o_M_owes_7 rfl ?_
  refine q2_callVi _ (a := 159) (As := [.int p0, .int p1]) (st := []) hs o_M_owes_8 k_M_362 rfl rfl (Nat.le_of_ble_eq_true rfl) h (fun x4 σ2 hs3 h1 => ?_)
  refine q_if_eq o_M_owes_11 (fun c5 => ?_) (fun c5 => ?_)
  · have h6 := h1.1 c5
    refine q_iconst (v := (-1)) o_M_owes_31 (by decide) ?_
    exact q_ire o_M_owes_32 rfl h6
  · have h7 := h1.2 c5
    refine q_aload_n o_M_owes_14 rfl ?_
    refine q2_getR hs3 o_M_owes_15 f_M_133 rfl (fz_159_24 hs3) ?_
    refine q_bipush (v := 12) o_M_owes_18 (by decide) ?_
    refine q_bipush (v := 6) o_M_owes_20 (by decide) ?_
    refine q_iload_n o_M_owes_22 rfl ?_
    refine q_imul o_M_owes_23 ?_
    refine q_iadd o_M_owes_24 ?_
    refine q_iload_n o_M_owes_25 rfl ?_
    refine q_iadd o_M_owes_26 ?_
    obtain ⟨k9, eh8, bh8, h8⟩ := h7
    refine q2_iald hs3 o_M_owes_27 rfl eh8 bh8 (by decide) ?_
    refine q_goto o_M_owes_28 ?_
    exact q_ire o_M_owes_32 rfl h8

set_option maxRecDepth 20000 in
theorem v_M_drawBelow_0 {G : q_G} {d : Nat} {σ : q_S} {Q : Option Value → q_S → Prop} {p0 : Int32}  (hs : q_Sh σ) (h : (¬ p0.toInt64 = 0 ∧ Q (some (.int ((((q_L (q_setL σ 159 28 ((((q_L σ 159 28) * 1103515245) + 12345) - (((q_L σ 159 28) * 1103515245) + 12345) / 2147483648 * 2147483648)) 159 28) / 65536) - ((q_L (q_setL σ 159 28 ((((q_L σ 159 28) * 1103515245) + 12345) - (((q_L σ 159 28) * 1103515245) + 12345) / 2147483648 * 2147483648)) 159 28) / 65536) / p0.toInt64 * p0.toInt64).toInt32))) (q_setL σ 159 28 ((((q_L σ 159 28) * 1103515245) + 12345) - (((q_L σ 159 28) * 1103515245) + 12345) / 2147483648 * 2147483648)))) : q_At G X_M_drawBelow d 0 0 0 [some (.ref 159), some (.int p0)] [] σ Q := by
  refine q_aload_n o_M_drawBelow_0 rfl ?_
  refine q_aload_n o_M_drawBelow_1 rfl ?_
  refine q2_getL hs o_M_drawBelow_2 f_M_366 rfl ?_
  refine q_ldc2 o_M_drawBelow_5 n_M_370 ?_
  refine q_lmul o_M_drawBelow_8 ?_
  refine q_ldc2 o_M_drawBelow_9 n_M_372 ?_
  refine q_ladd o_M_drawBelow_12 ?_
  refine q_ldc2 o_M_drawBelow_13 n_M_374 ?_
  refine q_lrem o_M_drawBelow_16 (by decide) ?_
  refine q2_putL hs o_M_drawBelow_17 fp_M_366 rfl rfl rfl ?_
  refine q_aload_n o_M_drawBelow_20 rfl ?_
  refine q2_getL hs o_M_drawBelow_21 f_M_366 rfl ?_
  refine q_ldc2 o_M_drawBelow_24 n_M_376 ?_
  refine q_ldiv o_M_drawBelow_27 (by decide) ?_
  refine q_iload_n o_M_drawBelow_28 rfl ?_
  refine q_i2l o_M_drawBelow_29 ?_
  obtain ⟨h1n, h1⟩ := h
  refine q_lrem o_M_drawBelow_30 h1n ?_
  refine q_l2i o_M_drawBelow_31 ?_
  exact q_ire o_M_drawBelow_32 rfl h1

set_option maxRecDepth 20000 in
theorem v_M_lapses_0 {G : q_G} {d : Nat} {σ : q_S} {Q : Option Value → q_S → Prop} {p0 : Int32} {p1 : Int32} {p2 : Int32}  (hs : q_Sh σ) (h : ((p1 = p2 → Q (some (.int 0)) σ) ∧ (¬ p1 = p2 → q_Call G d 0 0 X_M_wallBy [.ref 159, .int p0, .int p1, .int p2] σ (q_ri (fun x7 σ5 => ((x7 ≤ 0 → Q (some (.int 0)) σ5) ∧ (¬ x7 ≤ 0 → q_Call G d 0 0 X_M_familyOf [.ref 159, .int p2, .int 0] σ5 (q_ri (fun x14 σ12 => (narrow .boolean (.int (if x14 = 3 then (0 : Int32) else (1 : Int32))) = .int (if x14 = 3 then (0 : Int32) else (1 : Int32)) ∧ Q (some (.int (if x14 = 3 then (0 : Int32) else (1 : Int32)))) σ12)))))))))) : q_At G X_M_lapses (d + 1) 0 0 0 [some (.ref 159), some (.int p0), some (.int p1), some (.int p2)] [] σ Q := by
  refine q_iload_n o_M_lapses_0 rfl ?_
  refine q_iload_n o_M_lapses_1 rfl ?_
  refine q_icmp_eq o_M_lapses_2 (fun c1 => ?_) (fun c1 => ?_)
  · have h2 := h.1 c1
    refine q_iconst (v := 0) o_M_lapses_29 (by decide) ?_
    exact q_zre o_M_lapses_30 rfl rfl h2
  · have h3 := h.2 c1
    refine q_aload_n o_M_lapses_5 rfl ?_
    refine q_iload_n o_M_lapses_6 rfl ?_
    refine q_iload_n o_M_lapses_7 rfl ?_
    refine q_iload_n o_M_lapses_8 rfl ?_
    refine q2_callVi _ (a := 159) (As := [.int p0, .int p1, .int p2]) (st := []) hs o_M_lapses_9 k_M_344 rfl rfl (Nat.le_of_ble_eq_true rfl) h3 (fun x7 σ5 hs6 h4 => ?_)
    refine q_if_le o_M_lapses_12 (fun c8 => ?_) (fun c8 => ?_)
    · have h9 := h4.1 c8
      refine q_iconst (v := 0) o_M_lapses_29 (by decide) ?_
      exact q_zre o_M_lapses_30 rfl rfl h9
    · have h10 := h4.2 c8
      refine q_aload_n o_M_lapses_15 rfl ?_
      refine q_iload_n o_M_lapses_16 rfl ?_
      refine q_iconst (v := 0) o_M_lapses_17 (by decide) ?_
      refine q2_callVi _ (a := 159) (As := [.int p2, .int 0]) (st := []) hs6 o_M_lapses_18 k_M_313 rfl rfl (Nat.le_of_ble_eq_true rfl) h10 (fun x14 σ12 hs13 h11 => ?_)
      refine q_iconst (v := 3) o_M_lapses_21 (by decide) ?_
      have hJ : ∀ vJ : Int32, vJ = (if x14 = 3 then (0 : Int32) else (1 : Int32)) → q_At G X_M_lapses (d + 1) 0 0 30 [some (.ref 159), some (.int p0), some (.int p1), some (.int p2)] [.int vJ] σ12 Q := by
        intro vJ eJ
        rw [eJ]
        clear eJ vJ
        exact q_zre o_M_lapses_30 rfl h11.1 h11.2
      refine q_icmp_eq o_M_lapses_22 (fun c15 => ?_) (fun c15 => ?_)
      · refine q_iconst (v := 0) o_M_lapses_29 (by decide) ?_
        exact hJ _ (Eq.symm (if_pos c15))
      · refine q_iconst (v := 1) o_M_lapses_25 (by decide) ?_
        refine q_goto o_M_lapses_26 ?_
        exact hJ _ (Eq.symm (if_neg c15))

set_option maxRecDepth 20000 in
theorem v_M_draws_0 {G : q_G} {d : Nat} {σ : q_S} {Q : Option Value → q_S → Prop} {p0 : Int32}  (hs : q_Sh σ) (h : q_At G X_M_draws (d + 1) 0 0 4 [some (.ref 159), some (.int p0), some (.int 0), some (.int 0), none, none] [] σ Q) : q_At G X_M_draws (d + 1) 0 0 0 [some (.ref 159), some (.int p0), none, none, none, none] [] σ Q := by
  refine q_iconst (v := 0) o_M_draws_0 (by decide) ?_
  refine q2_istn (ls' := [some (.ref 159), some (.int p0), some (.int 0), none, none, none]) o_M_draws_1 (Nat.le_of_ble_eq_true rfl) rfl ?_
  refine q_iconst (v := 0) o_M_draws_2 (by decide) ?_
  refine q2_istn (ls' := [some (.ref 159), some (.int p0), some (.int 0), some (.int 0), none, none]) o_M_draws_3 (Nat.le_of_ble_eq_true rfl) rfl ?_
  exact h

set_option maxRecDepth 20000 in
theorem v_M_draws_4 {G : q_G} {d : Nat} {σ : q_S} {Q : Option Value → q_S → Prop} {p0 : Int32} {l2 : Int32} {l3 : Int32}  (hs : q_Sh σ) (h : (((q_I σ 165 1) ≤ l3 → q_At G X_M_draws (d + 1) 0 0 87 [some (.ref 159), some (.int p0), some (.int l2), some (.int 0), none, none] [] σ Q) ∧ (¬ (q_I σ 165 1) ≤ l3 → q_At G X_M_draws (d + 1) 0 0 15 [some (.ref 159), some (.int p0), some (.int l2), some (.int l3), some (.int 0), none] [] σ Q))) : q_At G X_M_draws (d + 1) 0 0 4 [some (.ref 159), some (.int p0), some (.int l2), some (.int l3), none, none] [] σ Q := by
  refine q_iload_n o_M_draws_4 rfl ?_
  refine q_aload_n o_M_draws_5 rfl ?_
  refine q2_M_families hs o_M_draws_6 k_M_309 (Nat.le_of_ble_eq_true rfl) ?_
  refine q_icmp_ge o_M_draws_9 (fun c1 => ?_) (fun c1 => ?_)
  · have h2 := h.1 c1
    refine q_iconst (v := 0) o_M_draws_85 (by decide) ?_
    refine q2_istn (ls' := [some (.ref 159), some (.int p0), some (.int l2), some (.int 0), none, none]) o_M_draws_86 (Nat.le_of_ble_eq_true rfl) rfl ?_
    exact h2
  · have h3 := h.2 c1
    refine q_iconst (v := 0) o_M_draws_12 (by decide) ?_
    refine q2_ist (ls' := [some (.ref 159), some (.int p0), some (.int l2), some (.int l3), some (.int 0), none]) o_M_draws_13 (Nat.le_of_ble_eq_true rfl) rfl ?_
    exact h3

set_option maxRecDepth 20000 in
theorem v_M_draws_15 {G : q_G} {d : Nat} {σ : q_S} {Q : Option Value → q_S → Prop} {p0 : Int32} {l2 : Int32} {l3 : Int32} {l4 : Int32}  (hs : q_Sh σ) (h : (((q_I σ 165 1) ≤ l4 → q_At G X_M_draws (d + 1) 0 0 4 [some (.ref 159), some (.int p0), some (.int l2), some (.int (l3 + 1)), none, none] [] σ Q) ∧ (¬ (q_I σ 165 1) ≤ l4 → q_Call G d 0 0 X_M_lapses [.ref 159, .int p0, .int l3, .int l4] σ (q_ri (fun x7 σ5 => ((x7 = 0 → q_At G X_M_draws (d + 1) 0 0 15 [some (.ref 159), some (.int p0), some (.int l2), some (.int l3), some (.int (l4 + 1)), none] [] σ5 Q) ∧ (¬ x7 = 0 → (∃ k12, (((p0 + 12) + (6 * l3)) + l4) = nI k12 ∧ k12 < 1886 ∧ (∃ k14, (((p0 + 12) + (6 * l3)) + l4) = nI k14 ∧ k14 < 1886 ∧ q_At G X_M_draws (d + 1) 0 0 15 [some (.ref 159), some (.int p0), some (.int (l2 + (q_I σ5 175 k12))), some (.int l3), some (.int (l4 + 1)), none] [] (q_setI σ5 175 k14 0) Q))))))))) : q_At G X_M_draws (d + 1) 0 0 15 [some (.ref 159), some (.int p0), some (.int l2), some (.int l3), some (.int l4), none] [] σ Q := by
  refine q_iload o_M_draws_15 rfl ?_
  refine q_aload_n o_M_draws_17 rfl ?_
  refine q2_M_families hs o_M_draws_18 k_M_309 (Nat.le_of_ble_eq_true rfl) ?_
  refine q_icmp_ge o_M_draws_21 (fun c1 => ?_) (fun c1 => ?_)
  · have h2 := h.1 c1
    refine q2_inc (v := (l3 + 1)) (ls' := [some (.ref 159), some (.int p0), some (.int l2), some (.int (l3 + 1)), some (.int l4), none]) o_M_draws_79 rfl rfl (Nat.le_of_ble_eq_true rfl) rfl ?_
    refine q_goto o_M_draws_82 ?_
    exact q_weak (ls' := [some (.ref 159), some (.int p0), some (.int l2), some (.int (l3 + 1)), none, none]) (And.intro rfl (And.intro rfl (And.intro rfl (And.intro rfl trivial)))) h2
  · have h3 := h.2 c1
    refine q_aload_n o_M_draws_24 rfl ?_
    refine q_iload_n o_M_draws_25 rfl ?_
    refine q_iload_n o_M_draws_26 rfl ?_
    refine q_iload o_M_draws_27 rfl ?_
    refine q2_callVi _ (a := 159) (As := [.int p0, .int l3, .int l4]) (st := []) hs o_M_draws_29 k_M_378 rfl rfl (Nat.le_of_ble_eq_true rfl) h3 (fun x7 σ5 hs6 h4 => ?_)
    refine q_if_eq o_M_draws_32 (fun c8 => ?_) (fun c8 => ?_)
    · have h9 := h4.1 c8
      refine q2_inc (v := (l4 + 1)) (ls' := [some (.ref 159), some (.int p0), some (.int l2), some (.int l3), some (.int (l4 + 1)), none]) o_M_draws_73 rfl rfl (Nat.le_of_ble_eq_true rfl) rfl ?_
      refine q_goto o_M_draws_76 ?_
      exact h9
    · have h10 := h4.2 c8
      refine q_iload_n o_M_draws_35 rfl ?_
      refine q_aload_n o_M_draws_36 rfl ?_
      refine q2_getR hs6 o_M_draws_37 f_M_133 rfl (fz_159_24 hs6) ?_
      refine q_iload_n o_M_draws_40 rfl ?_
      refine q_bipush (v := 12) o_M_draws_41 (by decide) ?_
      refine q_iadd o_M_draws_43 ?_
      refine q_bipush (v := 6) o_M_draws_44 (by decide) ?_
      refine q_iload_n o_M_draws_46 rfl ?_
      refine q_imul o_M_draws_47 ?_
      refine q_iadd o_M_draws_48 ?_
      refine q_iload o_M_draws_49 rfl ?_
      refine q_iadd o_M_draws_51 ?_
      obtain ⟨k12, eh11, bh11, h11⟩ := h10
      refine q2_iald hs6 o_M_draws_52 rfl eh11 bh11 (by decide) ?_
      refine q_iadd o_M_draws_53 ?_
      refine q2_istn (ls' := [some (.ref 159), some (.int p0), some (.int (l2 + (q_I σ5 175 k12))), some (.int l3), some (.int l4), none]) o_M_draws_54 (Nat.le_of_ble_eq_true rfl) rfl ?_
      refine q_aload_n o_M_draws_55 rfl ?_
      refine q2_getR hs6 o_M_draws_56 f_M_133 rfl (fz_159_24 hs6) ?_
      refine q_iload_n o_M_draws_59 rfl ?_
      refine q_bipush (v := 12) o_M_draws_60 (by decide) ?_
      refine q_iadd o_M_draws_62 ?_
      refine q_bipush (v := 6) o_M_draws_63 (by decide) ?_
      refine q_iload_n o_M_draws_65 rfl ?_
      refine q_imul o_M_draws_66 ?_
      refine q_iadd o_M_draws_67 ?_
      refine q_iload o_M_draws_68 rfl ?_
      refine q_iadd o_M_draws_70 ?_
      refine q_iconst (v := 0) o_M_draws_71 (by decide) ?_
      obtain ⟨k14, eh13, bh13, h13⟩ := h11
      refine q2_iast hs6 o_M_draws_72 rfl eh13 bh13 (by decide) ?_
      refine q2_inc (v := (l4 + 1)) (ls' := [some (.ref 159), some (.int p0), some (.int (l2 + (q_I σ5 175 k12))), some (.int l3), some (.int (l4 + 1)), none]) o_M_draws_73 rfl rfl (Nat.le_of_ble_eq_true rfl) rfl ?_
      refine q_goto o_M_draws_76 ?_
      exact h13

set_option maxRecDepth 20000 in
theorem v_M_draws_87 {G : q_G} {d : Nat} {σ : q_S} {Q : Option Value → q_S → Prop} {p0 : Int32} {l2 : Int32} {l3 : Int32}  (hs : q_Sh σ) (h : (((q_I σ 165 0) ≤ l3 → q_At G X_M_draws (d + 1) 0 0 115 [some (.ref 159), some (.int p0), some (.int l2), some (.int ((q_I σ 165 0) - 1)), none, none] [] σ Q) ∧ (¬ (q_I σ 165 0) ≤ l3 → (∃ k5, l3 = nI k5 ∧ k5 < 6 ∧ q_At G X_M_draws (d + 1) 0 0 87 [some (.ref 159), some (.int p0), some (.int l2), some (.int (l3 + 1)), none, none] [] (q_setI σ 178 k5 l3) Q)))) : q_At G X_M_draws (d + 1) 0 0 87 [some (.ref 159), some (.int p0), some (.int l2), some (.int l3), none, none] [] σ Q := by
  refine q_iload_n o_M_draws_87 rfl ?_
  refine q_aload_n o_M_draws_88 rfl ?_
  refine q2_M_houses hs o_M_draws_89 k_M_329 (Nat.le_of_ble_eq_true rfl) ?_
  refine q_icmp_ge o_M_draws_92 (fun c1 => ?_) (fun c1 => ?_)
  · have h2 := h.1 c1
    refine q_aload_n o_M_draws_108 rfl ?_
    refine q2_M_houses hs o_M_draws_109 k_M_329 (Nat.le_of_ble_eq_true rfl) ?_
    refine q_iconst (v := 1) o_M_draws_112 (by decide) ?_
    refine q_isub o_M_draws_113 ?_
    refine q2_istn (ls' := [some (.ref 159), some (.int p0), some (.int l2), some (.int ((q_I σ 165 0) - 1)), none, none]) o_M_draws_114 (Nat.le_of_ble_eq_true rfl) rfl ?_
    exact h2
  · have h3 := h.2 c1
    refine q_aload_n o_M_draws_95 rfl ?_
    refine q2_getR hs o_M_draws_96 f_M_143 rfl (fz_159_29 hs) ?_
    refine q_iload_n o_M_draws_99 rfl ?_
    refine q_iload_n o_M_draws_100 rfl ?_
    obtain ⟨k5, eh4, bh4, h4⟩ := h3
    refine q2_iast hs o_M_draws_101 rfl eh4 bh4 (by decide) ?_
    refine q2_inc (v := (l3 + 1)) (ls' := [some (.ref 159), some (.int p0), some (.int l2), some (.int (l3 + 1)), none, none]) o_M_draws_102 rfl rfl (Nat.le_of_ble_eq_true rfl) rfl ?_
    refine q_goto o_M_draws_105 ?_
    exact h4

set_option maxRecDepth 20000 in
theorem v_M_draws_115 {G : q_G} {d : Nat} {σ : q_S} {Q : Option Value → q_S → Prop} {p0 : Int32} {l2 : Int32} {l3 : Int32}  (hs : q_Sh σ) (h : ((l3 ≤ 0 → q_At G X_M_draws (d + 1) 0 0 166 [some (.ref 159), some (.int p0), some (.int l2), some (.int 0), none, none] [] σ Q) ∧ (¬ l3 ≤ 0 → q_Call G d 0 0 X_M_drawBelow [.ref 159, .int (l3 + 1)] σ (q_ri (fun x7 σ5 => (∃ k9, l3 = nI k9 ∧ k9 < 6 ∧ (∃ k11, x7 = nI k11 ∧ k11 < 6 ∧ (∃ k13, l3 = nI k13 ∧ k13 < 6 ∧ (∃ k15, x7 = nI k15 ∧ k15 < 6 ∧ q_At G X_M_draws (d + 1) 0 0 115 [some (.ref 159), some (.int p0), some (.int l2), some (.int (l3 + (-1))), none, none] [] (q_setI (q_setI σ5 178 k13 (q_I σ5 178 k11)) 178 k15 (q_I σ5 178 k9)) Q))))))))) : q_At G X_M_draws (d + 1) 0 0 115 [some (.ref 159), some (.int p0), some (.int l2), some (.int l3), none, none] [] σ Q := by
  refine q_iload_n o_M_draws_115 rfl ?_
  refine q_if_le o_M_draws_116 (fun c1 => ?_) (fun c1 => ?_)
  · have h2 := h.1 c1
    refine q_iconst (v := 0) o_M_draws_164 (by decide) ?_
    refine q2_istn (ls' := [some (.ref 159), some (.int p0), some (.int l2), some (.int 0), none, none]) o_M_draws_165 (Nat.le_of_ble_eq_true rfl) rfl ?_
    exact h2
  · have h3 := h.2 c1
    refine q_aload_n o_M_draws_119 rfl ?_
    refine q_iload_n o_M_draws_120 rfl ?_
    refine q_iconst (v := 1) o_M_draws_121 (by decide) ?_
    refine q_iadd o_M_draws_122 ?_
    refine q2_callVi _ (a := 159) (As := [.int (l3 + 1)]) (st := []) hs o_M_draws_123 k_M_381 rfl rfl (Nat.le_of_ble_eq_true rfl) h3 (fun x7 σ5 hs6 h4 => ?_)
    refine q2_ist (ls' := [some (.ref 159), some (.int p0), some (.int l2), some (.int l3), some (.int x7), none]) o_M_draws_126 (Nat.le_of_ble_eq_true rfl) rfl ?_
    refine q_aload_n o_M_draws_128 rfl ?_
    refine q2_getR hs6 o_M_draws_129 f_M_143 rfl (fz_159_29 hs6) ?_
    refine q_iload_n o_M_draws_132 rfl ?_
    obtain ⟨k9, eh8, bh8, h8⟩ := h4
    refine q2_iald hs6 o_M_draws_133 rfl eh8 bh8 (by decide) ?_
    refine q2_ist (ls' := [some (.ref 159), some (.int p0), some (.int l2), some (.int l3), some (.int x7), some (.int (q_I σ5 178 k9))]) o_M_draws_134 (Nat.le_of_ble_eq_true rfl) rfl ?_
    refine q_aload_n o_M_draws_136 rfl ?_
    refine q2_getR hs6 o_M_draws_137 f_M_143 rfl (fz_159_29 hs6) ?_
    refine q_iload_n o_M_draws_140 rfl ?_
    refine q_aload_n o_M_draws_141 rfl ?_
    refine q2_getR hs6 o_M_draws_142 f_M_143 rfl (fz_159_29 hs6) ?_
    refine q_iload o_M_draws_145 rfl ?_
    obtain ⟨k11, eh10, bh10, h10⟩ := h8
    refine q2_iald hs6 o_M_draws_147 rfl eh10 bh10 (by decide) ?_
    obtain ⟨k13, eh12, bh12, h12⟩ := h10
    refine q2_iast hs6 o_M_draws_148 rfl eh12 bh12 (by decide) ?_
    refine q_aload_n o_M_draws_149 rfl ?_
    refine q2_getR hs6 o_M_draws_150 f_M_143 rfl (fz_159_29 hs6) ?_
    refine q_iload o_M_draws_153 rfl ?_
    refine q_iload o_M_draws_155 rfl ?_
    obtain ⟨k15, eh14, bh14, h14⟩ := h12
    refine q2_iast hs6 o_M_draws_157 rfl eh14 bh14 (by decide) ?_
    refine q2_inc (v := (l3 + (-1))) (ls' := [some (.ref 159), some (.int p0), some (.int l2), some (.int (l3 + (-1))), some (.int x7), some (.int (q_I σ5 178 k9))]) o_M_draws_158 rfl rfl (Nat.le_of_ble_eq_true rfl) rfl ?_
    refine q_goto o_M_draws_161 ?_
    exact q_weak (ls' := [some (.ref 159), some (.int p0), some (.int l2), some (.int (l3 + (-1))), none, none]) (And.intro rfl (And.intro rfl (And.intro rfl (And.intro rfl trivial)))) h14

set_option maxRecDepth 20000 in
theorem v_M_draws_166 {G : q_G} {d : Nat} {σ : q_S} {Q : Option Value → q_S → Prop} {p0 : Int32} {l2 : Int32} {l3 : Int32}  (hs : q_Sh σ) (h : (((q_I σ 165 1) ≤ l3 → (∃ k4, (p0 + 48) = nI k4 ∧ k4 < 1886 ∧ (∃ k6, (p0 + 48) = nI k6 ∧ k6 < 1886 ∧ (∃ k8, (p0 + 49) = nI k8 ∧ k8 < 1886 ∧ (∃ k10, (p0 + 49) = nI k10 ∧ k10 < 1886 ∧ Q (some (.int l2)) (q_setI (q_setI σ 175 k6 ((q_I σ 175 k4) + 1)) 175 k10 ((q_I (q_setI σ 175 k6 ((q_I σ 175 k4) + 1)) 175 k8) + l2))))))) ∧ (¬ (q_I σ 165 1) ≤ l3 → (∃ k13, l3 = nI k13 ∧ k13 < 6 ∧ (∃ k15, ((p0 + 0) + l3) = nI k15 ∧ k15 < 1886 ∧ q_At G X_M_draws (d + 1) 0 0 166 [some (.ref 159), some (.int p0), some (.int l2), some (.int (l3 + 1)), none, none] [] (q_setI σ 175 k15 (q_I σ 178 k13)) Q))))) : q_At G X_M_draws (d + 1) 0 0 166 [some (.ref 159), some (.int p0), some (.int l2), some (.int l3), none, none] [] σ Q := by
  refine q_iload_n o_M_draws_166 rfl ?_
  refine q_aload_n o_M_draws_167 rfl ?_
  refine q2_M_families hs o_M_draws_168 k_M_309 (Nat.le_of_ble_eq_true rfl) ?_
  refine q_icmp_ge o_M_draws_171 (fun c1 => ?_) (fun c1 => ?_)
  · have h2 := h.1 c1
    refine q_aload_n o_M_draws_196 rfl ?_
    refine q2_getR hs o_M_draws_197 f_M_133 rfl (fz_159_24 hs) ?_
    refine q_iload_n o_M_draws_200 rfl ?_
    refine q_bipush (v := 48) o_M_draws_201 (by decide) ?_
    refine q_iadd o_M_draws_203 ?_
    refine q_dup2 o_M_draws_204 rfl rfl ?_
    obtain ⟨k4, eh3, bh3, h3⟩ := h2
    refine q2_iald hs o_M_draws_205 rfl eh3 bh3 (by decide) ?_
    refine q_iconst (v := 1) o_M_draws_206 (by decide) ?_
    refine q_iadd o_M_draws_207 ?_
    obtain ⟨k6, eh5, bh5, h5⟩ := h3
    refine q2_iast hs o_M_draws_208 rfl eh5 bh5 (by decide) ?_
    refine q_aload_n o_M_draws_209 rfl ?_
    refine q2_getR hs o_M_draws_210 f_M_133 rfl (fz_159_24 hs) ?_
    refine q_iload_n o_M_draws_213 rfl ?_
    refine q_bipush (v := 49) o_M_draws_214 (by decide) ?_
    refine q_iadd o_M_draws_216 ?_
    refine q_dup2 o_M_draws_217 rfl rfl ?_
    obtain ⟨k8, eh7, bh7, h7⟩ := h5
    refine q2_iald hs o_M_draws_218 rfl eh7 bh7 (by decide) ?_
    refine q_iload_n o_M_draws_219 rfl ?_
    refine q_iadd o_M_draws_220 ?_
    obtain ⟨k10, eh9, bh9, h9⟩ := h7
    refine q2_iast hs o_M_draws_221 rfl eh9 bh9 (by decide) ?_
    refine q_iload_n o_M_draws_222 rfl ?_
    exact q_ire o_M_draws_223 rfl h9
  · have h11 := h.2 c1
    refine q_aload_n o_M_draws_174 rfl ?_
    refine q2_getR hs o_M_draws_175 f_M_133 rfl (fz_159_24 hs) ?_
    refine q_iload_n o_M_draws_178 rfl ?_
    refine q_iconst (v := 0) o_M_draws_179 (by decide) ?_
    refine q_iadd o_M_draws_180 ?_
    refine q_iload_n o_M_draws_181 rfl ?_
    refine q_iadd o_M_draws_182 ?_
    refine q_aload_n o_M_draws_183 rfl ?_
    refine q2_getR hs o_M_draws_184 f_M_143 rfl (fz_159_29 hs) ?_
    refine q_iload_n o_M_draws_187 rfl ?_
    obtain ⟨k13, eh12, bh12, h12⟩ := h11
    refine q2_iald hs o_M_draws_188 rfl eh12 bh12 (by decide) ?_
    obtain ⟨k15, eh14, bh14, h14⟩ := h12
    refine q2_iast hs o_M_draws_189 rfl eh14 bh14 (by decide) ?_
    refine q2_inc (v := (l3 + 1)) (ls' := [some (.ref 159), some (.int p0), some (.int l2), some (.int (l3 + 1)), none, none]) o_M_draws_190 rfl rfl (Nat.le_of_ble_eq_true rfl) rfl ?_
    refine q_goto o_M_draws_193 ?_
    exact h14

set_option maxRecDepth 20000 in
theorem v_M_draw_0 {G : q_G} {d : Nat} {σ : q_S} {Q : Option Value → q_S → Prop} {p0 : Int32}  (hs : q_Sh σ) (h : q_Call G d 0 0 X_M_within [.int p0, .int 0, .int 9999] (q_setI σ 159 0 0) (q_ri (fun x4 σ2 => ((¬ x4 = 0 → q_Call G d 0 0 X_M_keeps [.ref 159] σ2 (q_rv (fun σ8 => q_Call G d 0 0 X_M_draws [.ref 159, .int 0] (q_setL σ8 159 28 p0.toInt64) (q_ri (fun x13 σ11 => Q (some (.int x13)) σ11))))) ∧ (x4 = 0 → Q (some (.int (-1))) σ2))))) : q_At G X_M_draw (d + 1) 0 0 0 [some (.ref 159), some (.int p0)] [] σ Q := by
  refine q_aload_n o_M_draw_0 rfl ?_
  refine q_iconst (v := 0) o_M_draw_1 (by decide) ?_
  refine q2_putI hs o_M_draw_2 fp_M_1 rfl rfl rfl ?_
  refine q_iload_n o_M_draw_5 rfl ?_
  refine q_iconst (v := 0) o_M_draw_6 (by decide) ?_
  refine q_sipush (v := 9999) o_M_draw_7 (by decide) ?_
  refine q2_callSi _ (As := [.int p0, .int 0, .int 9999]) (st := []) hs o_M_draw_10 k_M_227 rfl (Nat.le_of_ble_eq_true rfl) h (fun x4 σ2 hs3 h1 => ?_)
  refine q_if_ne o_M_draw_13 (fun c5 => ?_) (fun c5 => ?_)
  · have h6 := h1.1 c5
    refine q_aload_n o_M_draw_18 rfl ?_
    refine q2_callVv _ (a := 159) (As := []) (st := []) hs3 o_M_draw_19 k_M_384 rfl rfl (Nat.le_of_ble_eq_true rfl) h6 (fun σ8 hs9 h7 => ?_)
    refine q_aload_n o_M_draw_22 rfl ?_
    refine q_iload_n o_M_draw_23 rfl ?_
    refine q_i2l o_M_draw_24 ?_
    refine q2_putL hs9 o_M_draw_25 fp_M_366 rfl rfl rfl ?_
    refine q_aload_n o_M_draw_28 rfl ?_
    refine q_iconst (v := 0) o_M_draw_29 (by decide) ?_
    refine q2_callVi _ (a := 159) (As := [.int 0]) (st := []) hs9 o_M_draw_30 k_M_387 rfl rfl (Nat.le_of_ble_eq_true rfl) h7 (fun x13 σ11 hs12 h10 => ?_)
    exact q_ire o_M_draw_33 rfl h10
  · have h14 := h1.2 c5
    refine q_iconst (v := (-1)) o_M_draw_16 (by decide) ?_
    exact q_ire o_M_draw_17 rfl h14

set_option maxRecDepth 20000 in
theorem v_M_swaps_0 {G : q_G} {d : Nat} {σ : q_S} {Q : Option Value → q_S → Prop} {p0 : Int32} {p1 : Int32} {p2 : Int32}  (hs : q_Sh σ) (h : (∃ k2, ((p0 + 0) + p1) = nI k2 ∧ k2 < 1886 ∧ (∃ k4, ((p0 + 0) + p2) = nI k4 ∧ k4 < 1886 ∧ (∃ k6, ((p0 + 0) + p1) = nI k6 ∧ k6 < 1886 ∧ (∃ k8, ((p0 + 0) + p2) = nI k8 ∧ k8 < 1886 ∧ Q none (q_setI (q_setI σ 175 k6 (q_I σ 175 k4)) 175 k8 (q_I σ 175 k2))))))) : q_At G X_M_swaps d 0 0 0 [some (.ref 159), some (.int p0), some (.int p1), some (.int p2), none] [] σ Q := by
  refine q_aload_n o_M_swaps_0 rfl ?_
  refine q2_getR hs o_M_swaps_1 f_M_133 rfl (fz_159_24 hs) ?_
  refine q_iload_n o_M_swaps_4 rfl ?_
  refine q_iconst (v := 0) o_M_swaps_5 (by decide) ?_
  refine q_iadd o_M_swaps_6 ?_
  refine q_iload_n o_M_swaps_7 rfl ?_
  refine q_iadd o_M_swaps_8 ?_
  obtain ⟨k2, eh1, bh1, h1⟩ := h
  refine q2_iald hs o_M_swaps_9 rfl eh1 bh1 (by decide) ?_
  refine q2_ist (ls' := [some (.ref 159), some (.int p0), some (.int p1), some (.int p2), some (.int (q_I σ 175 k2))]) o_M_swaps_10 (Nat.le_of_ble_eq_true rfl) rfl ?_
  refine q_aload_n o_M_swaps_12 rfl ?_
  refine q2_getR hs o_M_swaps_13 f_M_133 rfl (fz_159_24 hs) ?_
  refine q_iload_n o_M_swaps_16 rfl ?_
  refine q_iconst (v := 0) o_M_swaps_17 (by decide) ?_
  refine q_iadd o_M_swaps_18 ?_
  refine q_iload_n o_M_swaps_19 rfl ?_
  refine q_iadd o_M_swaps_20 ?_
  refine q_aload_n o_M_swaps_21 rfl ?_
  refine q2_getR hs o_M_swaps_22 f_M_133 rfl (fz_159_24 hs) ?_
  refine q_iload_n o_M_swaps_25 rfl ?_
  refine q_iconst (v := 0) o_M_swaps_26 (by decide) ?_
  refine q_iadd o_M_swaps_27 ?_
  refine q_iload_n o_M_swaps_28 rfl ?_
  refine q_iadd o_M_swaps_29 ?_
  obtain ⟨k4, eh3, bh3, h3⟩ := h1
  refine q2_iald hs o_M_swaps_30 rfl eh3 bh3 (by decide) ?_
  obtain ⟨k6, eh5, bh5, h5⟩ := h3
  refine q2_iast hs o_M_swaps_31 rfl eh5 bh5 (by decide) ?_
  refine q_aload_n o_M_swaps_32 rfl ?_
  refine q2_getR hs o_M_swaps_33 f_M_133 rfl (fz_159_24 hs) ?_
  refine q_iload_n o_M_swaps_36 rfl ?_
  refine q_iconst (v := 0) o_M_swaps_37 (by decide) ?_
  refine q_iadd o_M_swaps_38 ?_
  refine q_iload_n o_M_swaps_39 rfl ?_
  refine q_iadd o_M_swaps_40 ?_
  refine q_iload o_M_swaps_41 rfl ?_
  obtain ⟨k8, eh7, bh7, h7⟩ := h5
  refine q2_iast hs o_M_swaps_43 rfl eh7 bh7 (by decide) ?_
  exact q_vre o_M_swaps_44 rfl h7

set_option maxRecDepth 20000 in
theorem v_M_swap_0 {G : q_G} {d : Nat} {σ : q_S} {Q : Option Value → q_S → Prop} {p0 : Int32} {p1 : Int32}  (hs : q_Sh σ) (h : q_Call G d 0 0 X_M_areTwo [.ref 159, .int p0, .int p1] (q_setI σ 159 0 0) (q_ri (fun x4 σ2 => ((¬ x4 = 0 → q_Call G d 0 0 X_M_keeps [.ref 159] σ2 (q_rv (fun σ8 => q_Call G d 0 0 X_M_swaps [.ref 159, .int 0, .int p0, .int p1] σ8 (q_rv (fun σ11 => Q (some (.int 1)) σ11))))) ∧ (x4 = 0 → Q (some (.int 0)) σ2))))) : q_At G X_M_swap (d + 1) 0 0 0 [some (.ref 159), some (.int p0), some (.int p1)] [] σ Q := by
  refine q_aload_n o_M_swap_0 rfl ?_
  refine q_iconst (v := 0) o_M_swap_1 (by decide) ?_
  refine q2_putI hs o_M_swap_2 fp_M_1 rfl rfl rfl ?_
  refine q_aload_n o_M_swap_5 rfl ?_
  refine q_iload_n o_M_swap_6 rfl ?_
  refine q_iload_n o_M_swap_7 rfl ?_
  refine q2_callVi _ (a := 159) (As := [.int p0, .int p1]) (st := []) hs o_M_swap_8 k_M_362 rfl rfl (Nat.le_of_ble_eq_true rfl) h (fun x4 σ2 hs3 h1 => ?_)
  refine q_if_ne o_M_swap_11 (fun c5 => ?_) (fun c5 => ?_)
  · have h6 := h1.1 c5
    refine q_aload_n o_M_swap_16 rfl ?_
    refine q2_callVv _ (a := 159) (As := []) (st := []) hs3 o_M_swap_17 k_M_384 rfl rfl (Nat.le_of_ble_eq_true rfl) h6 (fun σ8 hs9 h7 => ?_)
    refine q_aload_n o_M_swap_20 rfl ?_
    refine q_iconst (v := 0) o_M_swap_21 (by decide) ?_
    refine q_iload_n o_M_swap_22 rfl ?_
    refine q_iload_n o_M_swap_23 rfl ?_
    refine q2_callVv _ (a := 159) (As := [.int 0, .int p0, .int p1]) (st := []) hs9 o_M_swap_24 k_M_390 rfl rfl (Nat.le_of_ble_eq_true rfl) h7 (fun σ11 hs12 h10 => ?_)
    refine q_iconst (v := 1) o_M_swap_27 (by decide) ?_
    exact q_zre o_M_swap_28 rfl rfl h10
  · have h13 := h1.2 c5
    refine q_iconst (v := 0) o_M_swap_14 (by decide) ?_
    exact q_zre o_M_swap_15 rfl rfl h13

set_option maxRecDepth 20000 in
theorem v_M_mayLend_0 {G : q_G} {d : Nat} {σ : q_S} {Q : Option Value → q_S → Prop} {p0 : Int32} {p1 : Int32} {p2 : Int32} {p3 : Int32}  (hs : q_Sh σ) (h : ((p1 = p2 → Q (some (.int 0)) σ) ∧ (¬ p1 = p2 → q_Call G d 0 0 X_M_wallBy [.ref 159, .int p0, .int p1, .int p2] σ (q_ri (fun x7 σ5 => ((x7 ≤ 0 → Q (some (.int 0)) σ5) ∧ (¬ x7 ≤ 0 → (∃ k12, ((p0 + 6) + p1) = nI k12 ∧ k12 < 1886 ∧ (narrow .boolean (.int (if (q_I σ5 175 k12) < p3 then (0 : Int32) else (1 : Int32))) = .int (if (q_I σ5 175 k12) < p3 then (0 : Int32) else (1 : Int32)) ∧ Q (some (.int (if (q_I σ5 175 k12) < p3 then (0 : Int32) else (1 : Int32)))) σ5))))))))) : q_At G X_M_mayLend (d + 1) 0 0 0 [some (.ref 159), some (.int p0), some (.int p1), some (.int p2), some (.int p3)] [] σ Q := by
  refine q_iload_n o_M_mayLend_0 rfl ?_
  refine q_iload_n o_M_mayLend_1 rfl ?_
  refine q_icmp_eq o_M_mayLend_2 (fun c1 => ?_) (fun c1 => ?_)
  · have h2 := h.1 c1
    refine q_iconst (v := 0) o_M_mayLend_35 (by decide) ?_
    exact q_zre o_M_mayLend_36 rfl rfl h2
  · have h3 := h.2 c1
    refine q_aload_n o_M_mayLend_5 rfl ?_
    refine q_iload_n o_M_mayLend_6 rfl ?_
    refine q_iload_n o_M_mayLend_7 rfl ?_
    refine q_iload_n o_M_mayLend_8 rfl ?_
    refine q2_callVi _ (a := 159) (As := [.int p0, .int p1, .int p2]) (st := []) hs o_M_mayLend_9 k_M_344 rfl rfl (Nat.le_of_ble_eq_true rfl) h3 (fun x7 σ5 hs6 h4 => ?_)
    refine q_if_le o_M_mayLend_12 (fun c8 => ?_) (fun c8 => ?_)
    · have h9 := h4.1 c8
      refine q_iconst (v := 0) o_M_mayLend_35 (by decide) ?_
      exact q_zre o_M_mayLend_36 rfl rfl h9
    · have h10 := h4.2 c8
      refine q_aload_n o_M_mayLend_15 rfl ?_
      refine q2_getR hs6 o_M_mayLend_16 f_M_133 rfl (fz_159_24 hs6) ?_
      refine q_iload_n o_M_mayLend_19 rfl ?_
      refine q_bipush (v := 6) o_M_mayLend_20 (by decide) ?_
      refine q_iadd o_M_mayLend_22 ?_
      refine q_iload_n o_M_mayLend_23 rfl ?_
      refine q_iadd o_M_mayLend_24 ?_
      obtain ⟨k12, eh11, bh11, h11⟩ := h10
      refine q2_iald hs6 o_M_mayLend_25 rfl eh11 bh11 (by decide) ?_
      refine q_iload o_M_mayLend_26 rfl ?_
      have hJ : ∀ vJ : Int32, vJ = (if (q_I σ5 175 k12) < p3 then (0 : Int32) else (1 : Int32)) → q_At G X_M_mayLend (d + 1) 0 0 36 [some (.ref 159), some (.int p0), some (.int p1), some (.int p2), some (.int p3)] [.int vJ] σ5 Q := by
        intro vJ eJ
        rw [eJ]
        clear eJ vJ
        exact q_zre o_M_mayLend_36 rfl h11.1 h11.2
      refine q_icmp_lt o_M_mayLend_28 (fun c13 => ?_) (fun c13 => ?_)
      · refine q_iconst (v := 0) o_M_mayLend_35 (by decide) ?_
        exact hJ _ (Eq.symm (if_pos c13))
      · refine q_iconst (v := 1) o_M_mayLend_31 (by decide) ?_
        refine q_goto o_M_mayLend_32 ?_
        exact hJ _ (Eq.symm (if_neg c13))

set_option maxRecDepth 20000 in
theorem v_M_moves_0 {G : q_G} {d : Nat} {σ : q_S} {Q : Option Value → q_S → Prop} {p0 : Int32} {p1 : Int32} {p2 : Int32} {p3 : Int32}  (hs : q_Sh σ) (h : (∃ k2, ((p0 + 6) + p1) = nI k2 ∧ k2 < 1886 ∧ (∃ k4, ((p0 + 6) + p1) = nI k4 ∧ k4 < 1886 ∧ (∃ k6, ((p0 + 6) + p2) = nI k6 ∧ k6 < 1886 ∧ (∃ k8, ((p0 + 6) + p2) = nI k8 ∧ k8 < 1886 ∧ Q none (q_setI (q_setI σ 175 k4 ((q_I σ 175 k2) - p3)) 175 k8 ((q_I (q_setI σ 175 k4 ((q_I σ 175 k2) - p3)) 175 k6) + p3))))))) : q_At G X_M_moves d 0 0 0 [some (.ref 159), some (.int p0), some (.int p1), some (.int p2), some (.int p3)] [] σ Q := by
  refine q_aload_n o_M_moves_0 rfl ?_
  refine q2_getR hs o_M_moves_1 f_M_133 rfl (fz_159_24 hs) ?_
  refine q_iload_n o_M_moves_4 rfl ?_
  refine q_bipush (v := 6) o_M_moves_5 (by decide) ?_
  refine q_iadd o_M_moves_7 ?_
  refine q_iload_n o_M_moves_8 rfl ?_
  refine q_iadd o_M_moves_9 ?_
  refine q_dup2 o_M_moves_10 rfl rfl ?_
  obtain ⟨k2, eh1, bh1, h1⟩ := h
  refine q2_iald hs o_M_moves_11 rfl eh1 bh1 (by decide) ?_
  refine q_iload o_M_moves_12 rfl ?_
  refine q_isub o_M_moves_14 ?_
  obtain ⟨k4, eh3, bh3, h3⟩ := h1
  refine q2_iast hs o_M_moves_15 rfl eh3 bh3 (by decide) ?_
  refine q_aload_n o_M_moves_16 rfl ?_
  refine q2_getR hs o_M_moves_17 f_M_133 rfl (fz_159_24 hs) ?_
  refine q_iload_n o_M_moves_20 rfl ?_
  refine q_bipush (v := 6) o_M_moves_21 (by decide) ?_
  refine q_iadd o_M_moves_23 ?_
  refine q_iload_n o_M_moves_24 rfl ?_
  refine q_iadd o_M_moves_25 ?_
  refine q_dup2 o_M_moves_26 rfl rfl ?_
  obtain ⟨k6, eh5, bh5, h5⟩ := h3
  refine q2_iald hs o_M_moves_27 rfl eh5 bh5 (by decide) ?_
  refine q_iload o_M_moves_28 rfl ?_
  refine q_iadd o_M_moves_30 ?_
  obtain ⟨k8, eh7, bh7, h7⟩ := h5
  refine q2_iast hs o_M_moves_31 rfl eh7 bh7 (by decide) ?_
  exact q_vre o_M_moves_32 rfl h7

set_option maxRecDepth 20000 in
theorem v_M_lends_0 {G : q_G} {d : Nat} {σ : q_S} {Q : Option Value → q_S → Prop} {p0 : Int32} {p1 : Int32} {p2 : Int32} {p3 : Int32}  (hs : q_Sh σ) (h : q_Call G d 0 0 X_M_moves [.ref 159, .int p0, .int p1, .int p2, .int p3] σ (q_rv (fun σ2 => (∃ k5, (((p0 + 12) + (6 * p2)) + p1) = nI k5 ∧ k5 < 1886 ∧ (∃ k7, (((p0 + 12) + (6 * p2)) + p1) = nI k7 ∧ k7 < 1886 ∧ Q none (q_setI σ2 175 k7 ((q_I σ2 175 k5) + p3))))))) : q_At G X_M_lends (d + 1) 0 0 0 [some (.ref 159), some (.int p0), some (.int p1), some (.int p2), some (.int p3)] [] σ Q := by
  refine q_aload_n o_M_lends_0 rfl ?_
  refine q_iload_n o_M_lends_1 rfl ?_
  refine q_iload_n o_M_lends_2 rfl ?_
  refine q_iload_n o_M_lends_3 rfl ?_
  refine q_iload o_M_lends_4 rfl ?_
  refine q2_callVv _ (a := 159) (As := [.int p0, .int p1, .int p2, .int p3]) (st := []) hs o_M_lends_6 k_M_393 rfl rfl (Nat.le_of_ble_eq_true rfl) h (fun σ2 hs3 h1 => ?_)
  refine q_aload_n o_M_lends_9 rfl ?_
  refine q2_getR hs3 o_M_lends_10 f_M_133 rfl (fz_159_24 hs3) ?_
  refine q_iload_n o_M_lends_13 rfl ?_
  refine q_bipush (v := 12) o_M_lends_14 (by decide) ?_
  refine q_iadd o_M_lends_16 ?_
  refine q_bipush (v := 6) o_M_lends_17 (by decide) ?_
  refine q_iload_n o_M_lends_19 rfl ?_
  refine q_imul o_M_lends_20 ?_
  refine q_iadd o_M_lends_21 ?_
  refine q_iload_n o_M_lends_22 rfl ?_
  refine q_iadd o_M_lends_23 ?_
  refine q_dup2 o_M_lends_24 rfl rfl ?_
  obtain ⟨k5, eh4, bh4, h4⟩ := h1
  refine q2_iald hs3 o_M_lends_25 rfl eh4 bh4 (by decide) ?_
  refine q_iload o_M_lends_26 rfl ?_
  refine q_iadd o_M_lends_28 ?_
  obtain ⟨k7, eh6, bh6, h6⟩ := h4
  refine q2_iast hs3 o_M_lends_29 rfl eh6 bh6 (by decide) ?_
  exact q_vre o_M_lends_30 rfl h6

set_option maxRecDepth 20000 in
theorem v_M_lend_0 {G : q_G} {d : Nat} {σ : q_S} {Q : Option Value → q_S → Prop} {p0 : Int32} {p1 : Int32} {p2 : Int32}  (hs : q_Sh σ) (h : q_Call G d 0 0 X_M_areTwo [.ref 159, .int p0, .int p1] (q_setI σ 159 0 0) (q_ri (fun x4 σ2 => ((x4 = 0 → Q (some (.int 0)) σ2) ∧ (¬ x4 = 0 → q_Call G d 0 0 X_M_within [.int p2, .int 1, .int 999] σ2 (q_ri (fun x11 σ9 => ((x11 = 0 → Q (some (.int 0)) σ9) ∧ (¬ x11 = 0 → q_Call G d 0 0 X_M_mayLend [.ref 159, .int 0, .int p0, .int p1, .int p2] σ9 (q_ri (fun x18 σ16 => ((¬ x18 = 0 → q_Call G d 0 0 X_M_keeps [.ref 159] σ16 (q_rv (fun σ22 => q_Call G d 0 0 X_M_lends [.ref 159, .int 0, .int p0, .int p1, .int p2] σ22 (q_rv (fun σ25 => Q (some (.int 1)) σ25))))) ∧ (x18 = 0 → Q (some (.int 0)) σ16))))))))))))) : q_At G X_M_lend (d + 1) 0 0 0 [some (.ref 159), some (.int p0), some (.int p1), some (.int p2)] [] σ Q := by
  refine q_aload_n o_M_lend_0 rfl ?_
  refine q_iconst (v := 0) o_M_lend_1 (by decide) ?_
  refine q2_putI hs o_M_lend_2 fp_M_1 rfl rfl rfl ?_
  refine q_aload_n o_M_lend_5 rfl ?_
  refine q_iload_n o_M_lend_6 rfl ?_
  refine q_iload_n o_M_lend_7 rfl ?_
  refine q2_callVi _ (a := 159) (As := [.int p0, .int p1]) (st := []) hs o_M_lend_8 k_M_362 rfl rfl (Nat.le_of_ble_eq_true rfl) h (fun x4 σ2 hs3 h1 => ?_)
  refine q_if_eq o_M_lend_11 (fun c5 => ?_) (fun c5 => ?_)
  · have h6 := h1.1 c5
    refine q_iconst (v := 0) o_M_lend_36 (by decide) ?_
    exact q_zre o_M_lend_37 rfl rfl h6
  · have h7 := h1.2 c5
    refine q_iload_n o_M_lend_14 rfl ?_
    refine q_iconst (v := 1) o_M_lend_15 (by decide) ?_
    refine q_sipush (v := 999) o_M_lend_16 (by decide) ?_
    refine q2_callSi _ (As := [.int p2, .int 1, .int 999]) (st := []) hs3 o_M_lend_19 k_M_227 rfl (Nat.le_of_ble_eq_true rfl) h7 (fun x11 σ9 hs10 h8 => ?_)
    refine q_if_eq o_M_lend_22 (fun c12 => ?_) (fun c12 => ?_)
    · have h13 := h8.1 c12
      refine q_iconst (v := 0) o_M_lend_36 (by decide) ?_
      exact q_zre o_M_lend_37 rfl rfl h13
    · have h14 := h8.2 c12
      refine q_aload_n o_M_lend_25 rfl ?_
      refine q_iconst (v := 0) o_M_lend_26 (by decide) ?_
      refine q_iload_n o_M_lend_27 rfl ?_
      refine q_iload_n o_M_lend_28 rfl ?_
      refine q_iload_n o_M_lend_29 rfl ?_
      refine q2_callVi _ (a := 159) (As := [.int 0, .int p0, .int p1, .int p2]) (st := []) hs10 o_M_lend_30 k_M_397 rfl rfl (Nat.le_of_ble_eq_true rfl) h14 (fun x18 σ16 hs17 h15 => ?_)
      refine q_if_ne o_M_lend_33 (fun c19 => ?_) (fun c19 => ?_)
      · have h20 := h15.1 c19
        refine q_aload_n o_M_lend_38 rfl ?_
        refine q2_callVv _ (a := 159) (As := []) (st := []) hs17 o_M_lend_39 k_M_384 rfl rfl (Nat.le_of_ble_eq_true rfl) h20 (fun σ22 hs23 h21 => ?_)
        refine q_aload_n o_M_lend_42 rfl ?_
        refine q_iconst (v := 0) o_M_lend_43 (by decide) ?_
        refine q_iload_n o_M_lend_44 rfl ?_
        refine q_iload_n o_M_lend_45 rfl ?_
        refine q_iload_n o_M_lend_46 rfl ?_
        refine q2_callVv _ (a := 159) (As := [.int 0, .int p0, .int p1, .int p2]) (st := []) hs23 o_M_lend_47 k_M_401 rfl rfl (Nat.le_of_ble_eq_true rfl) h21 (fun σ25 hs26 h24 => ?_)
        refine q_iconst (v := 1) o_M_lend_50 (by decide) ?_
        exact q_zre o_M_lend_51 rfl rfl h24
      · have h27 := h15.2 c19
        refine q_iconst (v := 0) o_M_lend_36 (by decide) ?_
        exact q_zre o_M_lend_37 rfl rfl h27

set_option maxRecDepth 20000 in
theorem v_M_mayPay_0 {G : q_G} {d : Nat} {σ : q_S} {Q : Option Value → q_S → Prop} {p0 : Int32} {p1 : Int32} {p2 : Int32} {p3 : Int32}  (hs : q_Sh σ) (h : (∃ k2, ((p0 + 6) + p1) = nI k2 ∧ k2 < 1886 ∧ (((q_I σ 175 k2) < p3 → Q (some (.int 0)) σ) ∧ (¬ (q_I σ 175 k2) < p3 → (∃ k7, (((p0 + 12) + (6 * p1)) + p2) = nI k7 ∧ k7 < 1886 ∧ (narrow .boolean (.int (if (q_I σ 175 k7) < p3 then (0 : Int32) else (1 : Int32))) = .int (if (q_I σ 175 k7) < p3 then (0 : Int32) else (1 : Int32)) ∧ Q (some (.int (if (q_I σ 175 k7) < p3 then (0 : Int32) else (1 : Int32)))) σ)))))) : q_At G X_M_mayPay d 0 0 0 [some (.ref 159), some (.int p0), some (.int p1), some (.int p2), some (.int p3)] [] σ Q := by
  refine q_aload_n o_M_mayPay_0 rfl ?_
  refine q2_getR hs o_M_mayPay_1 f_M_133 rfl (fz_159_24 hs) ?_
  refine q_iload_n o_M_mayPay_4 rfl ?_
  refine q_bipush (v := 6) o_M_mayPay_5 (by decide) ?_
  refine q_iadd o_M_mayPay_7 ?_
  refine q_iload_n o_M_mayPay_8 rfl ?_
  refine q_iadd o_M_mayPay_9 ?_
  obtain ⟨k2, eh1, bh1, h1⟩ := h
  refine q2_iald hs o_M_mayPay_10 rfl eh1 bh1 (by decide) ?_
  refine q_iload o_M_mayPay_11 rfl ?_
  refine q_icmp_lt o_M_mayPay_13 (fun c3 => ?_) (fun c3 => ?_)
  · have h4 := h1.1 c3
    refine q_iconst (v := 0) o_M_mayPay_41 (by decide) ?_
    exact q_zre o_M_mayPay_42 rfl rfl h4
  · have h5 := h1.2 c3
    refine q_aload_n o_M_mayPay_16 rfl ?_
    refine q2_getR hs o_M_mayPay_17 f_M_133 rfl (fz_159_24 hs) ?_
    refine q_iload_n o_M_mayPay_20 rfl ?_
    refine q_bipush (v := 12) o_M_mayPay_21 (by decide) ?_
    refine q_iadd o_M_mayPay_23 ?_
    refine q_bipush (v := 6) o_M_mayPay_24 (by decide) ?_
    refine q_iload_n o_M_mayPay_26 rfl ?_
    refine q_imul o_M_mayPay_27 ?_
    refine q_iadd o_M_mayPay_28 ?_
    refine q_iload_n o_M_mayPay_29 rfl ?_
    refine q_iadd o_M_mayPay_30 ?_
    obtain ⟨k7, eh6, bh6, h6⟩ := h5
    refine q2_iald hs o_M_mayPay_31 rfl eh6 bh6 (by decide) ?_
    refine q_iload o_M_mayPay_32 rfl ?_
    have hJ : ∀ vJ : Int32, vJ = (if (q_I σ 175 k7) < p3 then (0 : Int32) else (1 : Int32)) → q_At G X_M_mayPay d 0 0 42 [some (.ref 159), some (.int p0), some (.int p1), some (.int p2), some (.int p3)] [.int vJ] σ Q := by
      intro vJ eJ
      rw [eJ]
      clear eJ vJ
      exact q_zre o_M_mayPay_42 rfl h6.1 h6.2
    refine q_icmp_lt o_M_mayPay_34 (fun c8 => ?_) (fun c8 => ?_)
    · refine q_iconst (v := 0) o_M_mayPay_41 (by decide) ?_
      exact hJ _ (Eq.symm (if_pos c8))
    · refine q_iconst (v := 1) o_M_mayPay_37 (by decide) ?_
      refine q_goto o_M_mayPay_38 ?_
      exact hJ _ (Eq.symm (if_neg c8))

set_option maxRecDepth 20000 in
theorem v_M_pays_0 {G : q_G} {d : Nat} {σ : q_S} {Q : Option Value → q_S → Prop} {p0 : Int32} {p1 : Int32} {p2 : Int32} {p3 : Int32}  (hs : q_Sh σ) (h : q_Call G d 0 0 X_M_moves [.ref 159, .int p0, .int p1, .int p2, .int p3] σ (q_rv (fun σ2 => (∃ k5, (((p0 + 12) + (6 * p1)) + p2) = nI k5 ∧ k5 < 1886 ∧ (∃ k7, (((p0 + 12) + (6 * p1)) + p2) = nI k7 ∧ k7 < 1886 ∧ Q none (q_setI σ2 175 k7 ((q_I σ2 175 k5) - p3))))))) : q_At G X_M_pays (d + 1) 0 0 0 [some (.ref 159), some (.int p0), some (.int p1), some (.int p2), some (.int p3)] [] σ Q := by
  refine q_aload_n o_M_pays_0 rfl ?_
  refine q_iload_n o_M_pays_1 rfl ?_
  refine q_iload_n o_M_pays_2 rfl ?_
  refine q_iload_n o_M_pays_3 rfl ?_
  refine q_iload o_M_pays_4 rfl ?_
  refine q2_callVv _ (a := 159) (As := [.int p0, .int p1, .int p2, .int p3]) (st := []) hs o_M_pays_6 k_M_393 rfl rfl (Nat.le_of_ble_eq_true rfl) h (fun σ2 hs3 h1 => ?_)
  refine q_aload_n o_M_pays_9 rfl ?_
  refine q2_getR hs3 o_M_pays_10 f_M_133 rfl (fz_159_24 hs3) ?_
  refine q_iload_n o_M_pays_13 rfl ?_
  refine q_bipush (v := 12) o_M_pays_14 (by decide) ?_
  refine q_iadd o_M_pays_16 ?_
  refine q_bipush (v := 6) o_M_pays_17 (by decide) ?_
  refine q_iload_n o_M_pays_19 rfl ?_
  refine q_imul o_M_pays_20 ?_
  refine q_iadd o_M_pays_21 ?_
  refine q_iload_n o_M_pays_22 rfl ?_
  refine q_iadd o_M_pays_23 ?_
  refine q_dup2 o_M_pays_24 rfl rfl ?_
  obtain ⟨k5, eh4, bh4, h4⟩ := h1
  refine q2_iald hs3 o_M_pays_25 rfl eh4 bh4 (by decide) ?_
  refine q_iload o_M_pays_26 rfl ?_
  refine q_isub o_M_pays_28 ?_
  obtain ⟨k7, eh6, bh6, h6⟩ := h4
  refine q2_iast hs3 o_M_pays_29 rfl eh6 bh6 (by decide) ?_
  exact q_vre o_M_pays_30 rfl h6

set_option maxRecDepth 20000 in
theorem v_M_pay_0 {G : q_G} {d : Nat} {σ : q_S} {Q : Option Value → q_S → Prop} {p0 : Int32} {p1 : Int32} {p2 : Int32}  (hs : q_Sh σ) (h : q_Call G d 0 0 X_M_areTwo [.ref 159, .int p0, .int p1] (q_setI σ 159 0 0) (q_ri (fun x4 σ2 => ((x4 = 0 → Q (some (.int 0)) σ2) ∧ (¬ x4 = 0 → q_Call G d 0 0 X_M_within [.int p2, .int 1, .int 999] σ2 (q_ri (fun x11 σ9 => ((x11 = 0 → Q (some (.int 0)) σ9) ∧ (¬ x11 = 0 → q_Call G d 0 0 X_M_mayPay [.ref 159, .int 0, .int p0, .int p1, .int p2] σ9 (q_ri (fun x18 σ16 => ((¬ x18 = 0 → q_Call G d 0 0 X_M_keeps [.ref 159] σ16 (q_rv (fun σ22 => q_Call G d 0 0 X_M_pays [.ref 159, .int 0, .int p0, .int p1, .int p2] σ22 (q_rv (fun σ25 => Q (some (.int 1)) σ25))))) ∧ (x18 = 0 → Q (some (.int 0)) σ16))))))))))))) : q_At G X_M_pay (d + 1) 0 0 0 [some (.ref 159), some (.int p0), some (.int p1), some (.int p2)] [] σ Q := by
  refine q_aload_n o_M_pay_0 rfl ?_
  refine q_iconst (v := 0) o_M_pay_1 (by decide) ?_
  refine q2_putI hs o_M_pay_2 fp_M_1 rfl rfl rfl ?_
  refine q_aload_n o_M_pay_5 rfl ?_
  refine q_iload_n o_M_pay_6 rfl ?_
  refine q_iload_n o_M_pay_7 rfl ?_
  refine q2_callVi _ (a := 159) (As := [.int p0, .int p1]) (st := []) hs o_M_pay_8 k_M_362 rfl rfl (Nat.le_of_ble_eq_true rfl) h (fun x4 σ2 hs3 h1 => ?_)
  refine q_if_eq o_M_pay_11 (fun c5 => ?_) (fun c5 => ?_)
  · have h6 := h1.1 c5
    refine q_iconst (v := 0) o_M_pay_36 (by decide) ?_
    exact q_zre o_M_pay_37 rfl rfl h6
  · have h7 := h1.2 c5
    refine q_iload_n o_M_pay_14 rfl ?_
    refine q_iconst (v := 1) o_M_pay_15 (by decide) ?_
    refine q_sipush (v := 999) o_M_pay_16 (by decide) ?_
    refine q2_callSi _ (As := [.int p2, .int 1, .int 999]) (st := []) hs3 o_M_pay_19 k_M_227 rfl (Nat.le_of_ble_eq_true rfl) h7 (fun x11 σ9 hs10 h8 => ?_)
    refine q_if_eq o_M_pay_22 (fun c12 => ?_) (fun c12 => ?_)
    · have h13 := h8.1 c12
      refine q_iconst (v := 0) o_M_pay_36 (by decide) ?_
      exact q_zre o_M_pay_37 rfl rfl h13
    · have h14 := h8.2 c12
      refine q_aload_n o_M_pay_25 rfl ?_
      refine q_iconst (v := 0) o_M_pay_26 (by decide) ?_
      refine q_iload_n o_M_pay_27 rfl ?_
      refine q_iload_n o_M_pay_28 rfl ?_
      refine q_iload_n o_M_pay_29 rfl ?_
      refine q2_callVi _ (a := 159) (As := [.int 0, .int p0, .int p1, .int p2]) (st := []) hs10 o_M_pay_30 k_M_404 rfl rfl (Nat.le_of_ble_eq_true rfl) h14 (fun x18 σ16 hs17 h15 => ?_)
      refine q_if_ne o_M_pay_33 (fun c19 => ?_) (fun c19 => ?_)
      · have h20 := h15.1 c19
        refine q_aload_n o_M_pay_38 rfl ?_
        refine q2_callVv _ (a := 159) (As := []) (st := []) hs17 o_M_pay_39 k_M_384 rfl rfl (Nat.le_of_ble_eq_true rfl) h20 (fun σ22 hs23 h21 => ?_)
        refine q_aload_n o_M_pay_42 rfl ?_
        refine q_iconst (v := 0) o_M_pay_43 (by decide) ?_
        refine q_iload_n o_M_pay_44 rfl ?_
        refine q_iload_n o_M_pay_45 rfl ?_
        refine q_iload_n o_M_pay_46 rfl ?_
        refine q2_callVv _ (a := 159) (As := [.int 0, .int p0, .int p1, .int p2]) (st := []) hs23 o_M_pay_47 k_M_407 rfl rfl (Nat.le_of_ble_eq_true rfl) h21 (fun σ25 hs26 h24 => ?_)
        refine q_iconst (v := 1) o_M_pay_50 (by decide) ?_
        exact q_zre o_M_pay_51 rfl rfl h24
      · have h27 := h15.2 c19
        refine q_iconst (v := 0) o_M_pay_36 (by decide) ?_
        exact q_zre o_M_pay_37 rfl rfl h27

set_option maxRecDepth 20000 in
theorem v_M_undo_0 {G : q_G} {d : Nat} {σ : q_S} {Q : Option Value → q_S → Prop}   (hs : q_Sh σ) (h : ((¬ (q_I (q_setI σ 159 0 0) 159 25) = 0 → q_Call G d 0 0 X_M_copies [.ref 159, .int (82 * (5 + (q_I (q_setI (q_setI σ 159 0 0) 159 25 ((q_I (q_setI σ 159 0 0) 159 25) - 1)) 159 25))), .int 0, .int 50] (q_setI (q_setI σ 159 0 0) 159 25 ((q_I (q_setI σ 159 0 0) 159 25) - 1)) (q_rv (fun σ4 => Q (some (.int 1)) σ4))) ∧ ((q_I (q_setI σ 159 0 0) 159 25) = 0 → Q (some (.int 0)) (q_setI σ 159 0 0)))) : q_At G X_M_undo (d + 1) 0 0 0 [some (.ref 159)] [] σ Q := by
  refine q_aload_n o_M_undo_0 rfl ?_
  refine q_iconst (v := 0) o_M_undo_1 (by decide) ?_
  refine q2_putI hs o_M_undo_2 fp_M_1 rfl rfl rfl ?_
  refine q_aload_n o_M_undo_5 rfl ?_
  refine q2_getI hs o_M_undo_6 f_M_322 rfl ?_
  refine q_if_ne o_M_undo_9 (fun c1 => ?_) (fun c1 => ?_)
  · have h2 := h.1 c1
    refine q_aload_n o_M_undo_14 rfl ?_
    refine q_dup o_M_undo_15 rfl ?_
    refine q2_getI hs o_M_undo_16 f_M_322 rfl ?_
    refine q_iconst (v := 1) o_M_undo_19 (by decide) ?_
    refine q_isub o_M_undo_20 ?_
    refine q2_putI hs o_M_undo_21 fp_M_322 rfl rfl rfl ?_
    refine q_aload_n o_M_undo_24 rfl ?_
    refine q_bipush (v := 82) o_M_undo_25 (by decide) ?_
    refine q_iconst (v := 5) o_M_undo_27 (by decide) ?_
    refine q_aload_n o_M_undo_28 rfl ?_
    refine q2_getI hs o_M_undo_29 f_M_322 rfl ?_
    refine q_iadd o_M_undo_32 ?_
    refine q_imul o_M_undo_33 ?_
    refine q_iconst (v := 0) o_M_undo_34 (by decide) ?_
    refine q_bipush (v := 50) o_M_undo_35 (by decide) ?_
    refine q2_callVv _ (a := 159) (As := [.int (82 * (5 + (q_I (q_setI (q_setI σ 159 0 0) 159 25 ((q_I (q_setI σ 159 0 0) 159 25) - 1)) 159 25))), .int 0, .int 50]) (st := []) hs o_M_undo_37 k_M_325 rfl rfl (Nat.le_of_ble_eq_true rfl) h2 (fun σ4 hs5 h3 => ?_)
    refine q_iconst (v := 1) o_M_undo_40 (by decide) ?_
    exact q_zre o_M_undo_41 rfl rfl h3
  · have h6 := h.2 c1
    refine q_iconst (v := 0) o_M_undo_12 (by decide) ?_
    exact q_zre o_M_undo_13 rfl rfl h6

set_option maxRecDepth 20000 in
theorem v_M_does_0 {G : q_G} {d : Nat} {σ : q_S} {Q : Option Value → q_S → Prop} {p0 : Int32}  (hs : q_Sh σ) (h : (∃ k2, p0 = nI k2 ∧ k2 < 210 ∧ (∃ k4, (p0 + 1) = nI k4 ∧ k4 < 210 ∧ (∃ k6, (p0 + 2) = nI k6 ∧ k6 < 210 ∧ (∃ k8, (p0 + 3) = nI k8 ∧ k8 < 210 ∧ (((q_I σ 172 k2) < 2 → ((¬ (q_I σ 172 k2) = 0 → ((¬ (q_I σ 172 k2) = 1 → ((¬ (q_I σ 172 k2) = 2 → q_Call G d 0 0 X_M_pays [.ref 159, .int 1722, .int (q_I σ 172 k4), .int (q_I σ 172 k6), .int (q_I σ 172 k8)] σ (q_rv (fun σ20 => Q (some (.int 1)) σ20))) ∧ ((q_I σ 172 k2) = 2 → q_Call G d 0 0 X_M_lends [.ref 159, .int 1722, .int (q_I σ 172 k4), .int (q_I σ 172 k6), .int (q_I σ 172 k8)] σ (q_rv (fun σ24 => Q (some (.int 1)) σ24))))) ∧ ((q_I σ 172 k2) = 1 → q_Call G d 0 0 X_M_swaps [.ref 159, .int 1722, .int (q_I σ 172 k4), .int (q_I σ 172 k6)] σ (q_rv (fun σ28 => Q (some (.int 1)) σ28))))) ∧ ((q_I σ 172 k2) = 0 → q_Call G d 0 0 X_M_draws [.ref 159, .int 1722] (q_setL σ 159 28 ((q_I σ 172 k4).toInt64)) (q_ri (fun x34 σ32 => Q (some (.int 1)) σ32))))) ∧ (¬ (q_I σ 172 k2) < 2 → ((¬ (q_I σ 172 k2) = 2 → q_Call G d 0 0 X_M_mayPay [.ref 159, .int 1722, .int (q_I σ 172 k4), .int (q_I σ 172 k6), .int (q_I σ 172 k8)] σ (q_ri (fun x41 σ39 => ((¬ (q_I σ 172 k2) = 0 → ((¬ (q_I σ 172 k2) = 1 → (((if x41 = 0 then (0 : Int32) else (1 : Int32)) = 0 → (((if x41 = 0 then (0 : Int32) else (1 : Int32)) = 0 → (narrow .boolean (.int (if x41 = 0 then (0 : Int32) else (1 : Int32))) = .int (if x41 = 0 then (0 : Int32) else (1 : Int32)) ∧ Q (some (.int (if x41 = 0 then (0 : Int32) else (1 : Int32)))) σ39)) ∧ (¬ (if x41 = 0 then (0 : Int32) else (1 : Int32)) = 0 → q_Call G d 0 0 X_M_pays [.ref 159, .int 1722, .int (q_I σ 172 k4), .int (q_I σ 172 k6), .int (q_I σ 172 k8)] σ39 (q_rv (fun σ53 => (narrow .boolean (.int (if x41 = 0 then (0 : Int32) else (1 : Int32))) = .int (if x41 = 0 then (0 : Int32) else (1 : Int32)) ∧ Q (some (.int (if x41 = 0 then (0 : Int32) else (1 : Int32)))) σ53)))))) ∧ (¬ (if x41 = 0 then (0 : Int32) else (1 : Int32)) = 0 → ((¬ (q_I σ 172 k2) = 2 → (((if x41 = 0 then (0 : Int32) else (1 : Int32)) = 0 → (narrow .boolean (.int (if x41 = 0 then (0 : Int32) else (1 : Int32))) = .int (if x41 = 0 then (0 : Int32) else (1 : Int32)) ∧ Q (some (.int (if x41 = 0 then (0 : Int32) else (1 : Int32)))) σ39)) ∧ (¬ (if x41 = 0 then (0 : Int32) else (1 : Int32)) = 0 → q_Call G d 0 0 X_M_pays [.ref 159, .int 1722, .int (q_I σ 172 k4), .int (q_I σ 172 k6), .int (q_I σ 172 k8)] σ39 (q_rv (fun σ62 => (narrow .boolean (.int (if x41 = 0 then (0 : Int32) else (1 : Int32))) = .int (if x41 = 0 then (0 : Int32) else (1 : Int32)) ∧ Q (some (.int (if x41 = 0 then (0 : Int32) else (1 : Int32)))) σ62)))))) ∧ ((q_I σ 172 k2) = 2 → q_Call G d 0 0 X_M_lends [.ref 159, .int 1722, .int (q_I σ 172 k4), .int (q_I σ 172 k6), .int (q_I σ 172 k8)] σ39 (q_rv (fun σ66 => (narrow .boolean (.int (if x41 = 0 then (0 : Int32) else (1 : Int32))) = .int (if x41 = 0 then (0 : Int32) else (1 : Int32)) ∧ Q (some (.int (if x41 = 0 then (0 : Int32) else (1 : Int32)))) σ66)))))))) ∧ ((q_I σ 172 k2) = 1 → q_Call G d 0 0 X_M_swaps [.ref 159, .int 1722, .int (q_I σ 172 k4), .int (q_I σ 172 k6)] σ39 (q_rv (fun σ70 => (narrow .boolean (.int (if x41 = 0 then (0 : Int32) else (1 : Int32))) = .int (if x41 = 0 then (0 : Int32) else (1 : Int32)) ∧ Q (some (.int (if x41 = 0 then (0 : Int32) else (1 : Int32)))) σ70)))))) ∧ ((q_I σ 172 k2) = 0 → q_Call G d 0 0 X_M_draws [.ref 159, .int 1722] (q_setL σ39 159 28 ((q_I σ 172 k4).toInt64)) (q_ri (fun x76 σ74 => (narrow .boolean (.int (if x41 = 0 then (0 : Int32) else (1 : Int32))) = .int (if x41 = 0 then (0 : Int32) else (1 : Int32)) ∧ Q (some (.int (if x41 = 0 then (0 : Int32) else (1 : Int32)))) σ74)))))))) ∧ ((q_I σ 172 k2) = 2 → q_Call G d 0 0 X_M_mayLend [.ref 159, .int 1722, .int (q_I σ 172 k4), .int (q_I σ 172 k6), .int (q_I σ 172 k8)] σ (q_ri (fun x81 σ79 => ((¬ (q_I σ 172 k2) = 0 → ((¬ (q_I σ 172 k2) = 1 → (((if x81 = 0 then (0 : Int32) else (1 : Int32)) = 0 → (((if x81 = 0 then (0 : Int32) else (1 : Int32)) = 0 → (narrow .boolean (.int (if x81 = 0 then (0 : Int32) else (1 : Int32))) = .int (if x81 = 0 then (0 : Int32) else (1 : Int32)) ∧ Q (some (.int (if x81 = 0 then (0 : Int32) else (1 : Int32)))) σ79)) ∧ (¬ (if x81 = 0 then (0 : Int32) else (1 : Int32)) = 0 → q_Call G d 0 0 X_M_pays [.ref 159, .int 1722, .int (q_I σ 172 k4), .int (q_I σ 172 k6), .int (q_I σ 172 k8)] σ79 (q_rv (fun σ93 => (narrow .boolean (.int (if x81 = 0 then (0 : Int32) else (1 : Int32))) = .int (if x81 = 0 then (0 : Int32) else (1 : Int32)) ∧ Q (some (.int (if x81 = 0 then (0 : Int32) else (1 : Int32)))) σ93)))))) ∧ (¬ (if x81 = 0 then (0 : Int32) else (1 : Int32)) = 0 → ((¬ (q_I σ 172 k2) = 2 → (((if x81 = 0 then (0 : Int32) else (1 : Int32)) = 0 → (narrow .boolean (.int (if x81 = 0 then (0 : Int32) else (1 : Int32))) = .int (if x81 = 0 then (0 : Int32) else (1 : Int32)) ∧ Q (some (.int (if x81 = 0 then (0 : Int32) else (1 : Int32)))) σ79)) ∧ (¬ (if x81 = 0 then (0 : Int32) else (1 : Int32)) = 0 → q_Call G d 0 0 X_M_pays [.ref 159, .int 1722, .int (q_I σ 172 k4), .int (q_I σ 172 k6), .int (q_I σ 172 k8)] σ79 (q_rv (fun σ102 => (narrow .boolean (.int (if x81 = 0 then (0 : Int32) else (1 : Int32))) = .int (if x81 = 0 then (0 : Int32) else (1 : Int32)) ∧ Q (some (.int (if x81 = 0 then (0 : Int32) else (1 : Int32)))) σ102)))))) ∧ ((q_I σ 172 k2) = 2 → q_Call G d 0 0 X_M_lends [.ref 159, .int 1722, .int (q_I σ 172 k4), .int (q_I σ 172 k6), .int (q_I σ 172 k8)] σ79 (q_rv (fun σ106 => (narrow .boolean (.int (if x81 = 0 then (0 : Int32) else (1 : Int32))) = .int (if x81 = 0 then (0 : Int32) else (1 : Int32)) ∧ Q (some (.int (if x81 = 0 then (0 : Int32) else (1 : Int32)))) σ106)))))))) ∧ ((q_I σ 172 k2) = 1 → q_Call G d 0 0 X_M_swaps [.ref 159, .int 1722, .int (q_I σ 172 k4), .int (q_I σ 172 k6)] σ79 (q_rv (fun σ110 => (narrow .boolean (.int (if x81 = 0 then (0 : Int32) else (1 : Int32))) = .int (if x81 = 0 then (0 : Int32) else (1 : Int32)) ∧ Q (some (.int (if x81 = 0 then (0 : Int32) else (1 : Int32)))) σ110)))))) ∧ ((q_I σ 172 k2) = 0 → q_Call G d 0 0 X_M_draws [.ref 159, .int 1722] (q_setL σ79 159 28 ((q_I σ 172 k4).toInt64)) (q_ri (fun x116 σ114 => (narrow .boolean (.int (if x81 = 0 then (0 : Int32) else (1 : Int32))) = .int (if x81 = 0 then (0 : Int32) else (1 : Int32)) ∧ Q (some (.int (if x81 = 0 then (0 : Int32) else (1 : Int32)))) σ114)))))))))))))))) : q_At G X_M_does (d + 1) 0 0 0 [some (.ref 159), some (.int p0), none, none, none, none, none] [] σ Q := by
  refine q_aload_n o_M_does_0 rfl ?_
  refine q2_getR hs o_M_does_1 f_M_124 rfl (fz_159_21 hs) ?_
  refine q_iload_n o_M_does_4 rfl ?_
  obtain ⟨k2, eh1, bh1, h1⟩ := h
  refine q2_iald hs o_M_does_5 rfl eh1 bh1 (by decide) ?_
  refine q2_istn (ls' := [some (.ref 159), some (.int p0), some (.int (q_I σ 172 k2)), none, none, none, none]) o_M_does_6 (Nat.le_of_ble_eq_true rfl) rfl ?_
  refine q_aload_n o_M_does_7 rfl ?_
  refine q2_getR hs o_M_does_8 f_M_124 rfl (fz_159_21 hs) ?_
  refine q_iload_n o_M_does_11 rfl ?_
  refine q_iconst (v := 1) o_M_does_12 (by decide) ?_
  refine q_iadd o_M_does_13 ?_
  obtain ⟨k4, eh3, bh3, h3⟩ := h1
  refine q2_iald hs o_M_does_14 rfl eh3 bh3 (by decide) ?_
  refine q2_istn (ls' := [some (.ref 159), some (.int p0), some (.int (q_I σ 172 k2)), some (.int (q_I σ 172 k4)), none, none, none]) o_M_does_15 (Nat.le_of_ble_eq_true rfl) rfl ?_
  refine q_aload_n o_M_does_16 rfl ?_
  refine q2_getR hs o_M_does_17 f_M_124 rfl (fz_159_21 hs) ?_
  refine q_iload_n o_M_does_20 rfl ?_
  refine q_iconst (v := 2) o_M_does_21 (by decide) ?_
  refine q_iadd o_M_does_22 ?_
  obtain ⟨k6, eh5, bh5, h5⟩ := h3
  refine q2_iald hs o_M_does_23 rfl eh5 bh5 (by decide) ?_
  refine q2_ist (ls' := [some (.ref 159), some (.int p0), some (.int (q_I σ 172 k2)), some (.int (q_I σ 172 k4)), some (.int (q_I σ 172 k6)), none, none]) o_M_does_24 (Nat.le_of_ble_eq_true rfl) rfl ?_
  refine q_aload_n o_M_does_26 rfl ?_
  refine q2_getR hs o_M_does_27 f_M_124 rfl (fz_159_21 hs) ?_
  refine q_iload_n o_M_does_30 rfl ?_
  refine q_iconst (v := 3) o_M_does_31 (by decide) ?_
  refine q_iadd o_M_does_32 ?_
  obtain ⟨k8, eh7, bh7, h7⟩ := h5
  refine q2_iald hs o_M_does_33 rfl eh7 bh7 (by decide) ?_
  refine q2_ist (ls' := [some (.ref 159), some (.int p0), some (.int (q_I σ 172 k2)), some (.int (q_I σ 172 k4)), some (.int (q_I σ 172 k6)), some (.int (q_I σ 172 k8)), none]) o_M_does_34 (Nat.le_of_ble_eq_true rfl) rfl ?_
  refine q_iload_n o_M_does_36 rfl ?_
  refine q_iconst (v := 2) o_M_does_37 (by decide) ?_
  refine q_icmp_lt o_M_does_38 (fun c9 => ?_) (fun c9 => ?_)
  · have h10 := h7.1 c9
    refine q_iconst (v := 1) o_M_does_79 (by decide) ?_
    refine q_goto o_M_does_80 ?_
    refine q2_ist (ls' := [some (.ref 159), some (.int p0), some (.int (q_I σ 172 k2)), some (.int (q_I σ 172 k4)), some (.int (q_I σ 172 k6)), some (.int (q_I σ 172 k8)), some (.int 1)]) o_M_does_84 (Nat.le_of_ble_eq_true rfl) rfl ?_
    refine q_iload_n o_M_does_86 rfl ?_
    refine q_if_ne o_M_does_87 (fun c11 => ?_) (fun c11 => ?_)
    · have h12 := h10.1 c11
      refine q_iload_n o_M_does_107 rfl ?_
      refine q_iconst (v := 1) o_M_does_108 (by decide) ?_
      refine q_icmp_ne o_M_does_109 (fun c13 => ?_) (fun c13 => ?_)
      · have h14 := h12.1 c13
        refine q_iload o_M_does_125 rfl ?_
        refine q_if_eq o_M_does_127 (fun c15 => absurd c15 (by decide)) (fun _ => ?_)
        refine q_iload_n o_M_does_130 rfl ?_
        refine q_iconst (v := 2) o_M_does_131 (by decide) ?_
        refine q_icmp_ne o_M_does_132 (fun c16 => ?_) (fun c16 => ?_)
        · have h17 := h14.1 c16
          refine q_iload o_M_does_150 rfl ?_
          refine q_if_eq o_M_does_152 (fun c18 => absurd c18 (by decide)) (fun _ => ?_)
          refine q_aload_n o_M_does_155 rfl ?_
          refine q_sipush (v := 1722) o_M_does_156 (by decide) ?_
          refine q_iload_n o_M_does_159 rfl ?_
          refine q_iload o_M_does_160 rfl ?_
          refine q_iload o_M_does_162 rfl ?_
          refine q2_callVv _ (a := 159) (As := [.int 1722, .int (q_I σ 172 k4), .int (q_I σ 172 k6), .int (q_I σ 172 k8)]) (st := []) hs o_M_does_164 k_M_407 rfl rfl (Nat.le_of_ble_eq_true rfl) h17 (fun σ20 hs21 h19 => ?_)
          refine q_iload o_M_does_167 rfl ?_
          exact q_zre o_M_does_169 rfl rfl h19
        · have h22 := h14.2 c16
          refine q_aload_n o_M_does_135 rfl ?_
          refine q_sipush (v := 1722) o_M_does_136 (by decide) ?_
          refine q_iload_n o_M_does_139 rfl ?_
          refine q_iload o_M_does_140 rfl ?_
          refine q_iload o_M_does_142 rfl ?_
          refine q2_callVv _ (a := 159) (As := [.int 1722, .int (q_I σ 172 k4), .int (q_I σ 172 k6), .int (q_I σ 172 k8)]) (st := []) hs o_M_does_144 k_M_401 rfl rfl (Nat.le_of_ble_eq_true rfl) h22 (fun σ24 hs25 h23 => ?_)
          refine q_goto o_M_does_147 ?_
          refine q_iload o_M_does_167 rfl ?_
          exact q_zre o_M_does_169 rfl rfl h23
      · have h26 := h12.2 c13
        refine q_aload_n o_M_does_112 rfl ?_
        refine q_sipush (v := 1722) o_M_does_113 (by decide) ?_
        refine q_iload_n o_M_does_116 rfl ?_
        refine q_iload o_M_does_117 rfl ?_
        refine q2_callVv _ (a := 159) (As := [.int 1722, .int (q_I σ 172 k4), .int (q_I σ 172 k6)]) (st := []) hs o_M_does_119 k_M_390 rfl rfl (Nat.le_of_ble_eq_true rfl) h26 (fun σ28 hs29 h27 => ?_)
        refine q_goto o_M_does_122 ?_
        refine q_iload o_M_does_167 rfl ?_
        exact q_zre o_M_does_169 rfl rfl h27
    · have h30 := h10.2 c11
      refine q_aload_n o_M_does_90 rfl ?_
      refine q_iload_n o_M_does_91 rfl ?_
      refine q_i2l o_M_does_92 ?_
      refine q2_putL hs o_M_does_93 fp_M_366 rfl rfl rfl ?_
      refine q_aload_n o_M_does_96 rfl ?_
      refine q_sipush (v := 1722) o_M_does_97 (by decide) ?_
      refine q2_callVi _ (a := 159) (As := [.int 1722]) (st := []) hs o_M_does_100 k_M_387 rfl rfl (Nat.le_of_ble_eq_true rfl) h30 (fun x34 σ32 hs33 h31 => ?_)
      refine q_pop o_M_does_103 rfl ?_
      refine q_goto o_M_does_104 ?_
      refine q_iload o_M_does_167 rfl ?_
      exact q_zre o_M_does_169 rfl rfl h31
  · have h35 := h7.2 c9
    refine q_iload_n o_M_does_41 rfl ?_
    refine q_iconst (v := 2) o_M_does_42 (by decide) ?_
    refine q_icmp_ne o_M_does_43 (fun c36 => ?_) (fun c36 => ?_)
    · have h37 := h35.1 c36
      refine q_aload_n o_M_does_64 rfl ?_
      refine q_sipush (v := 1722) o_M_does_65 (by decide) ?_
      refine q_iload_n o_M_does_68 rfl ?_
      refine q_iload o_M_does_69 rfl ?_
      refine q_iload o_M_does_71 rfl ?_
      refine q2_callVi _ (a := 159) (As := [.int 1722, .int (q_I σ 172 k4), .int (q_I σ 172 k6), .int (q_I σ 172 k8)]) (st := []) hs o_M_does_73 k_M_404 rfl rfl (Nat.le_of_ble_eq_true rfl) h37 (fun x41 σ39 hs40 h38 => ?_)
      have hJ : ∀ vJ : Int32, vJ = (if x41 = 0 then (0 : Int32) else (1 : Int32)) → q_At G X_M_does (d + 1) 0 0 84 [some (.ref 159), some (.int p0), some (.int (q_I σ 172 k2)), some (.int (q_I σ 172 k4)), some (.int (q_I σ 172 k6)), some (.int (q_I σ 172 k8)), none] [.int vJ] σ39 Q := by
        intro vJ eJ
        rw [eJ]
        clear eJ vJ
        refine q2_ist (ls' := [some (.ref 159), some (.int p0), some (.int (q_I σ 172 k2)), some (.int (q_I σ 172 k4)), some (.int (q_I σ 172 k6)), some (.int (q_I σ 172 k8)), some (.int (if x41 = 0 then (0 : Int32) else (1 : Int32)))]) o_M_does_84 (Nat.le_of_ble_eq_true rfl) rfl ?_
        refine q_iload_n o_M_does_86 rfl ?_
        refine q_if_ne o_M_does_87 (fun c43 => ?_) (fun c43 => ?_)
        · have h44 := h38.1 c43
          refine q_iload_n o_M_does_107 rfl ?_
          refine q_iconst (v := 1) o_M_does_108 (by decide) ?_
          refine q_icmp_ne o_M_does_109 (fun c45 => ?_) (fun c45 => ?_)
          · have h46 := h44.1 c45
            refine q_iload o_M_does_125 rfl ?_
            refine q_if_eq o_M_does_127 (fun c47 => ?_) (fun c47 => ?_)
            · have h48 := h46.1 c47
              refine q_iload o_M_does_150 rfl ?_
              refine q_if_eq o_M_does_152 (fun c49 => ?_) (fun c49 => ?_)
              · have h50 := h48.1 c49
                refine q_iload o_M_does_167 rfl ?_
                exact q_zre o_M_does_169 rfl h50.1 h50.2
              · have h51 := h48.2 c49
                refine q_aload_n o_M_does_155 rfl ?_
                refine q_sipush (v := 1722) o_M_does_156 (by decide) ?_
                refine q_iload_n o_M_does_159 rfl ?_
                refine q_iload o_M_does_160 rfl ?_
                refine q_iload o_M_does_162 rfl ?_
                refine q2_callVv _ (a := 159) (As := [.int 1722, .int (q_I σ 172 k4), .int (q_I σ 172 k6), .int (q_I σ 172 k8)]) (st := []) hs40 o_M_does_164 k_M_407 rfl rfl (Nat.le_of_ble_eq_true rfl) h51 (fun σ53 hs54 h52 => ?_)
                refine q_iload o_M_does_167 rfl ?_
                exact q_zre o_M_does_169 rfl h52.1 h52.2
            · have h55 := h46.2 c47
              refine q_iload_n o_M_does_130 rfl ?_
              refine q_iconst (v := 2) o_M_does_131 (by decide) ?_
              refine q_icmp_ne o_M_does_132 (fun c56 => ?_) (fun c56 => ?_)
              · have h57 := h55.1 c56
                refine q_iload o_M_does_150 rfl ?_
                refine q_if_eq o_M_does_152 (fun c58 => ?_) (fun c58 => ?_)
                · have h59 := h57.1 c58
                  refine q_iload o_M_does_167 rfl ?_
                  exact q_zre o_M_does_169 rfl h59.1 h59.2
                · have h60 := h57.2 c58
                  refine q_aload_n o_M_does_155 rfl ?_
                  refine q_sipush (v := 1722) o_M_does_156 (by decide) ?_
                  refine q_iload_n o_M_does_159 rfl ?_
                  refine q_iload o_M_does_160 rfl ?_
                  refine q_iload o_M_does_162 rfl ?_
                  refine q2_callVv _ (a := 159) (As := [.int 1722, .int (q_I σ 172 k4), .int (q_I σ 172 k6), .int (q_I σ 172 k8)]) (st := []) hs40 o_M_does_164 k_M_407 rfl rfl (Nat.le_of_ble_eq_true rfl) h60 (fun σ62 hs63 h61 => ?_)
                  refine q_iload o_M_does_167 rfl ?_
                  exact q_zre o_M_does_169 rfl h61.1 h61.2
              · have h64 := h55.2 c56
                refine q_aload_n o_M_does_135 rfl ?_
                refine q_sipush (v := 1722) o_M_does_136 (by decide) ?_
                refine q_iload_n o_M_does_139 rfl ?_
                refine q_iload o_M_does_140 rfl ?_
                refine q_iload o_M_does_142 rfl ?_
                refine q2_callVv _ (a := 159) (As := [.int 1722, .int (q_I σ 172 k4), .int (q_I σ 172 k6), .int (q_I σ 172 k8)]) (st := []) hs40 o_M_does_144 k_M_401 rfl rfl (Nat.le_of_ble_eq_true rfl) h64 (fun σ66 hs67 h65 => ?_)
                refine q_goto o_M_does_147 ?_
                refine q_iload o_M_does_167 rfl ?_
                exact q_zre o_M_does_169 rfl h65.1 h65.2
          · have h68 := h44.2 c45
            refine q_aload_n o_M_does_112 rfl ?_
            refine q_sipush (v := 1722) o_M_does_113 (by decide) ?_
            refine q_iload_n o_M_does_116 rfl ?_
            refine q_iload o_M_does_117 rfl ?_
            refine q2_callVv _ (a := 159) (As := [.int 1722, .int (q_I σ 172 k4), .int (q_I σ 172 k6)]) (st := []) hs40 o_M_does_119 k_M_390 rfl rfl (Nat.le_of_ble_eq_true rfl) h68 (fun σ70 hs71 h69 => ?_)
            refine q_goto o_M_does_122 ?_
            refine q_iload o_M_does_167 rfl ?_
            exact q_zre o_M_does_169 rfl h69.1 h69.2
        · have h72 := h38.2 c43
          refine q_aload_n o_M_does_90 rfl ?_
          refine q_iload_n o_M_does_91 rfl ?_
          refine q_i2l o_M_does_92 ?_
          refine q2_putL hs40 o_M_does_93 fp_M_366 rfl rfl rfl ?_
          refine q_aload_n o_M_does_96 rfl ?_
          refine q_sipush (v := 1722) o_M_does_97 (by decide) ?_
          refine q2_callVi _ (a := 159) (As := [.int 1722]) (st := []) hs40 o_M_does_100 k_M_387 rfl rfl (Nat.le_of_ble_eq_true rfl) h72 (fun x76 σ74 hs75 h73 => ?_)
          refine q_pop o_M_does_103 rfl ?_
          refine q_goto o_M_does_104 ?_
          refine q_iload o_M_does_167 rfl ?_
          exact q_zre o_M_does_169 rfl h73.1 h73.2
      refine q_if_eq o_M_does_76 (fun c42 => ?_) (fun c42 => ?_)
      · refine q_iconst (v := 0) o_M_does_83 (by decide) ?_
        exact hJ _ (Eq.symm (if_pos c42))
      · refine q_iconst (v := 1) o_M_does_79 (by decide) ?_
        refine q_goto o_M_does_80 ?_
        exact hJ _ (Eq.symm (if_neg c42))
    · have h77 := h35.2 c36
      refine q_aload_n o_M_does_46 rfl ?_
      refine q_sipush (v := 1722) o_M_does_47 (by decide) ?_
      refine q_iload_n o_M_does_50 rfl ?_
      refine q_iload o_M_does_51 rfl ?_
      refine q_iload o_M_does_53 rfl ?_
      refine q2_callVi _ (a := 159) (As := [.int 1722, .int (q_I σ 172 k4), .int (q_I σ 172 k6), .int (q_I σ 172 k8)]) (st := []) hs o_M_does_55 k_M_397 rfl rfl (Nat.le_of_ble_eq_true rfl) h77 (fun x81 σ79 hs80 h78 => ?_)
      have hJ : ∀ vJ : Int32, vJ = (if x81 = 0 then (0 : Int32) else (1 : Int32)) → q_At G X_M_does (d + 1) 0 0 84 [some (.ref 159), some (.int p0), some (.int (q_I σ 172 k2)), some (.int (q_I σ 172 k4)), some (.int (q_I σ 172 k6)), some (.int (q_I σ 172 k8)), none] [.int vJ] σ79 Q := by
        intro vJ eJ
        rw [eJ]
        clear eJ vJ
        refine q2_ist (ls' := [some (.ref 159), some (.int p0), some (.int (q_I σ 172 k2)), some (.int (q_I σ 172 k4)), some (.int (q_I σ 172 k6)), some (.int (q_I σ 172 k8)), some (.int (if x81 = 0 then (0 : Int32) else (1 : Int32)))]) o_M_does_84 (Nat.le_of_ble_eq_true rfl) rfl ?_
        refine q_iload_n o_M_does_86 rfl ?_
        refine q_if_ne o_M_does_87 (fun c83 => ?_) (fun c83 => ?_)
        · have h84 := h78.1 c83
          refine q_iload_n o_M_does_107 rfl ?_
          refine q_iconst (v := 1) o_M_does_108 (by decide) ?_
          refine q_icmp_ne o_M_does_109 (fun c85 => ?_) (fun c85 => ?_)
          · have h86 := h84.1 c85
            refine q_iload o_M_does_125 rfl ?_
            refine q_if_eq o_M_does_127 (fun c87 => ?_) (fun c87 => ?_)
            · have h88 := h86.1 c87
              refine q_iload o_M_does_150 rfl ?_
              refine q_if_eq o_M_does_152 (fun c89 => ?_) (fun c89 => ?_)
              · have h90 := h88.1 c89
                refine q_iload o_M_does_167 rfl ?_
                exact q_zre o_M_does_169 rfl h90.1 h90.2
              · have h91 := h88.2 c89
                refine q_aload_n o_M_does_155 rfl ?_
                refine q_sipush (v := 1722) o_M_does_156 (by decide) ?_
                refine q_iload_n o_M_does_159 rfl ?_
                refine q_iload o_M_does_160 rfl ?_
                refine q_iload o_M_does_162 rfl ?_
                refine q2_callVv _ (a := 159) (As := [.int 1722, .int (q_I σ 172 k4), .int (q_I σ 172 k6), .int (q_I σ 172 k8)]) (st := []) hs80 o_M_does_164 k_M_407 rfl rfl (Nat.le_of_ble_eq_true rfl) h91 (fun σ93 hs94 h92 => ?_)
                refine q_iload o_M_does_167 rfl ?_
                exact q_zre o_M_does_169 rfl h92.1 h92.2
            · have h95 := h86.2 c87
              refine q_iload_n o_M_does_130 rfl ?_
              refine q_iconst (v := 2) o_M_does_131 (by decide) ?_
              refine q_icmp_ne o_M_does_132 (fun c96 => ?_) (fun c96 => ?_)
              · have h97 := h95.1 c96
                refine q_iload o_M_does_150 rfl ?_
                refine q_if_eq o_M_does_152 (fun c98 => ?_) (fun c98 => ?_)
                · have h99 := h97.1 c98
                  refine q_iload o_M_does_167 rfl ?_
                  exact q_zre o_M_does_169 rfl h99.1 h99.2
                · have h100 := h97.2 c98
                  refine q_aload_n o_M_does_155 rfl ?_
                  refine q_sipush (v := 1722) o_M_does_156 (by decide) ?_
                  refine q_iload_n o_M_does_159 rfl ?_
                  refine q_iload o_M_does_160 rfl ?_
                  refine q_iload o_M_does_162 rfl ?_
                  refine q2_callVv _ (a := 159) (As := [.int 1722, .int (q_I σ 172 k4), .int (q_I σ 172 k6), .int (q_I σ 172 k8)]) (st := []) hs80 o_M_does_164 k_M_407 rfl rfl (Nat.le_of_ble_eq_true rfl) h100 (fun σ102 hs103 h101 => ?_)
                  refine q_iload o_M_does_167 rfl ?_
                  exact q_zre o_M_does_169 rfl h101.1 h101.2
              · have h104 := h95.2 c96
                refine q_aload_n o_M_does_135 rfl ?_
                refine q_sipush (v := 1722) o_M_does_136 (by decide) ?_
                refine q_iload_n o_M_does_139 rfl ?_
                refine q_iload o_M_does_140 rfl ?_
                refine q_iload o_M_does_142 rfl ?_
                refine q2_callVv _ (a := 159) (As := [.int 1722, .int (q_I σ 172 k4), .int (q_I σ 172 k6), .int (q_I σ 172 k8)]) (st := []) hs80 o_M_does_144 k_M_401 rfl rfl (Nat.le_of_ble_eq_true rfl) h104 (fun σ106 hs107 h105 => ?_)
                refine q_goto o_M_does_147 ?_
                refine q_iload o_M_does_167 rfl ?_
                exact q_zre o_M_does_169 rfl h105.1 h105.2
          · have h108 := h84.2 c85
            refine q_aload_n o_M_does_112 rfl ?_
            refine q_sipush (v := 1722) o_M_does_113 (by decide) ?_
            refine q_iload_n o_M_does_116 rfl ?_
            refine q_iload o_M_does_117 rfl ?_
            refine q2_callVv _ (a := 159) (As := [.int 1722, .int (q_I σ 172 k4), .int (q_I σ 172 k6)]) (st := []) hs80 o_M_does_119 k_M_390 rfl rfl (Nat.le_of_ble_eq_true rfl) h108 (fun σ110 hs111 h109 => ?_)
            refine q_goto o_M_does_122 ?_
            refine q_iload o_M_does_167 rfl ?_
            exact q_zre o_M_does_169 rfl h109.1 h109.2
        · have h112 := h78.2 c83
          refine q_aload_n o_M_does_90 rfl ?_
          refine q_iload_n o_M_does_91 rfl ?_
          refine q_i2l o_M_does_92 ?_
          refine q2_putL hs80 o_M_does_93 fp_M_366 rfl rfl rfl ?_
          refine q_aload_n o_M_does_96 rfl ?_
          refine q_sipush (v := 1722) o_M_does_97 (by decide) ?_
          refine q2_callVi _ (a := 159) (As := [.int 1722]) (st := []) hs80 o_M_does_100 k_M_387 rfl rfl (Nat.le_of_ble_eq_true rfl) h112 (fun x116 σ114 hs115 h113 => ?_)
          refine q_pop o_M_does_103 rfl ?_
          refine q_goto o_M_does_104 ?_
          refine q_iload o_M_does_167 rfl ?_
          exact q_zre o_M_does_169 rfl h113.1 h113.2
      refine q_if_eq o_M_does_58 (fun c82 => ?_) (fun c82 => ?_)
      · refine q_iconst (v := 0) o_M_does_83 (by decide) ?_
        exact hJ _ (Eq.symm (if_pos c82))
      · refine q_goto o_M_does_61 ?_
        refine q_iconst (v := 1) o_M_does_79 (by decide) ?_
        refine q_goto o_M_does_80 ?_
        exact hJ _ (Eq.symm (if_neg c82))

set_option maxRecDepth 20000 in
theorem v_M_judged_0 {G : q_G} {d : Nat} {σ : q_S} {Q : Option Value → q_S → Prop} {p0 : Int32}  (hs : q_Sh σ) (h : q_Call G d 0 0 X_M_within [.int p0, .int 0, .int 2] (q_setI σ 159 0 0) (q_ri (fun x4 σ2 => ((¬ x4 = 0 → q_Call G d 0 0 X_M_starts [.ref 159, .int 1722] σ2 (q_rv (fun σ8 => q_At G X_M_judged (d + 1) 0 0 31 [some (.ref 159), some (.int p0), some (.int (-1)), some (.int (-1)), some (.int 0), none] [] σ8 Q))) ∧ (x4 = 0 → Q (some (.int (-2))) σ2))))) : q_At G X_M_judged (d + 1) 0 0 0 [some (.ref 159), some (.int p0), none, none, none, none] [] σ Q := by
  refine q_aload_n o_M_judged_0 rfl ?_
  refine q_iconst (v := 0) o_M_judged_1 (by decide) ?_
  refine q2_putI hs o_M_judged_2 fp_M_1 rfl rfl rfl ?_
  refine q_iload_n o_M_judged_5 rfl ?_
  refine q_iconst (v := 0) o_M_judged_6 (by decide) ?_
  refine q_iconst (v := 2) o_M_judged_7 (by decide) ?_
  refine q2_callSi _ (As := [.int p0, .int 0, .int 2]) (st := []) hs o_M_judged_8 k_M_227 rfl (Nat.le_of_ble_eq_true rfl) h (fun x4 σ2 hs3 h1 => ?_)
  refine q_if_ne o_M_judged_11 (fun c5 => ?_) (fun c5 => ?_)
  · have h6 := h1.1 c5
    refine q_aload_n o_M_judged_17 rfl ?_
    refine q_sipush (v := 1722) o_M_judged_18 (by decide) ?_
    refine q2_callVv _ (a := 159) (As := [.int 1722]) (st := []) hs3 o_M_judged_21 k_M_319 rfl rfl (Nat.le_of_ble_eq_true rfl) h6 (fun σ8 hs9 h7 => ?_)
    refine q_iconst (v := (-1)) o_M_judged_24 (by decide) ?_
    refine q2_istn (ls' := [some (.ref 159), some (.int p0), some (.int (-1)), none, none, none]) o_M_judged_25 (Nat.le_of_ble_eq_true rfl) rfl ?_
    refine q_iconst (v := (-1)) o_M_judged_26 (by decide) ?_
    refine q2_istn (ls' := [some (.ref 159), some (.int p0), some (.int (-1)), some (.int (-1)), none, none]) o_M_judged_27 (Nat.le_of_ble_eq_true rfl) rfl ?_
    refine q_iconst (v := 0) o_M_judged_28 (by decide) ?_
    refine q2_ist (ls' := [some (.ref 159), some (.int p0), some (.int (-1)), some (.int (-1)), some (.int 0), none]) o_M_judged_29 (Nat.le_of_ble_eq_true rfl) rfl ?_
    exact h7
  · have h10 := h1.2 c5
    refine q_bipush (v := (-2)) o_M_judged_14 (by decide) ?_
    exact q_ire o_M_judged_16 rfl h10

set_option maxRecDepth 20000 in
theorem v_M_judged_31 {G : q_G} {d : Nat} {σ : q_S} {Q : Option Value → q_S → Prop} {p0 : Int32} {l2 : Int32} {l3 : Int32} {l4 : Int32}  (hs : q_Sh σ) (h : (((q_I σ 172 0) ≤ l4 → ((¬ p0 = 0 → ((¬ p0 = 1 → Q (some (.int (q_I σ 175 1771))) σ) ∧ (p0 = 1 → Q (some (.int l3)) σ))) ∧ (p0 = 0 → Q (some (.int l2)) σ))) ∧ (¬ (q_I σ 172 0) ≤ l4 → q_Call G d 0 0 X_M_does [.ref 159, .int (1 + (4 * l4))] σ (q_ri (fun x17 σ15 => ((0 ≤ l3 → q_At G X_M_judged (d + 1) 0 0 31 [some (.ref 159), some (.int p0), some (.int (if x17 = 0 then (if 0 ≤ l2 then l2 else l4) else l2)), some (.int l3), some (.int (l4 + 1)), none] [] σ15 Q) ∧ (¬ 0 ≤ l3 → q_Call G d 0 0 X_M_brokenBy [.ref 159, .int 1722] σ15 (q_ri (fun x26 σ24 => q_At G X_M_judged (d + 1) 0 0 31 [some (.ref 159), some (.int p0), some (.int (if x17 = 0 then (if 0 ≤ l2 then l2 else l4) else l2)), some (.int (if x26 = 0 then l3 else l4)), some (.int (l4 + 1)), none] [] σ24 Q))))))))) : q_At G X_M_judged (d + 1) 0 0 31 [some (.ref 159), some (.int p0), some (.int l2), some (.int l3), some (.int l4), none] [] σ Q := by
  refine q_iload o_M_judged_31 rfl ?_
  refine q_aload_n o_M_judged_33 rfl ?_
  refine q2_getR hs o_M_judged_34 f_M_124 rfl (fz_159_21 hs) ?_
  refine q_iconst (v := 0) o_M_judged_37 (by decide) ?_
  refine q2_iald (i := 0) hs o_M_judged_38 rfl rfl (by decide) (by decide) ?_
  refine q_icmp_ge o_M_judged_39 (fun c3 => ?_) (fun c3 => ?_)
  · have h4 := h.1 c3
    refine q_iload_n o_M_judged_97 rfl ?_
    refine q_if_ne o_M_judged_98 (fun c5 => ?_) (fun c5 => ?_)
    · have h6 := h4.1 c5
      refine q_iload_n o_M_judged_105 rfl ?_
      refine q_iconst (v := 1) o_M_judged_106 (by decide) ?_
      refine q_icmp_ne o_M_judged_107 (fun c7 => ?_) (fun c7 => ?_)
      · have h8 := h6.1 c7
        refine q_aload_n o_M_judged_114 rfl ?_
        refine q2_getR hs o_M_judged_115 f_M_133 rfl (fz_159_24 hs) ?_
        refine q_sipush (v := 1771) o_M_judged_118 (by decide) ?_
        refine q2_iald (i := 1771) hs o_M_judged_121 rfl rfl (by decide) (by decide) ?_
        exact q_ire o_M_judged_122 rfl h8
      · have h11 := h6.2 c7
        refine q_iload_n o_M_judged_110 rfl ?_
        refine q_goto o_M_judged_111 ?_
        exact q_ire o_M_judged_122 rfl h11
    · have h12 := h4.2 c5
      refine q_iload_n o_M_judged_101 rfl ?_
      refine q_goto o_M_judged_102 ?_
      exact q_ire o_M_judged_122 rfl h12
  · have h13 := h.2 c3
    refine q_aload_n o_M_judged_42 rfl ?_
    refine q_iconst (v := 1) o_M_judged_43 (by decide) ?_
    refine q_iconst (v := 4) o_M_judged_44 (by decide) ?_
    refine q_iload o_M_judged_45 rfl ?_
    refine q_imul o_M_judged_47 ?_
    refine q_iadd o_M_judged_48 ?_
    refine q2_callVi _ (a := 159) (As := [.int (1 + (4 * l4))]) (st := []) hs o_M_judged_49 k_M_410 rfl rfl (Nat.le_of_ble_eq_true rfl) h13 (fun x17 σ15 hs16 h14 => ?_)
    refine q2_ist (ls' := [some (.ref 159), some (.int p0), some (.int l2), some (.int l3), some (.int l4), some (.int x17)]) o_M_judged_52 (Nat.le_of_ble_eq_true rfl) rfl ?_
    refine q_iload o_M_judged_54 rfl ?_
    have hJ : ∀ vJ : Int32, vJ = (if x17 = 0 then (if 0 ≤ l2 then l2 else l4) else l2) → q_At G X_M_judged (d + 1) 0 0 69 [some (.ref 159), some (.int p0), some (.int l2), some (.int l3), some (.int l4), some (.int x17)] [.int vJ] σ15 Q := by
      intro vJ eJ
      rw [eJ]
      clear eJ vJ
      refine q2_istn (ls' := [some (.ref 159), some (.int p0), some (.int (if x17 = 0 then (if 0 ≤ l2 then l2 else l4) else l2)), some (.int l3), some (.int l4), some (.int x17)]) o_M_judged_69 (Nat.le_of_ble_eq_true rfl) rfl ?_
      refine q_iload_n o_M_judged_70 rfl ?_
      refine q_if_ge o_M_judged_71 (fun c20 => ?_) (fun c20 => ?_)
      · have h21 := h14.1 c20
        refine q_iload_n o_M_judged_89 rfl ?_
        refine q2_istn (ls' := [some (.ref 159), some (.int p0), some (.int (if x17 = 0 then (if 0 ≤ l2 then l2 else l4) else l2)), some (.int l3), some (.int l4), some (.int x17)]) o_M_judged_90 (Nat.le_of_ble_eq_true rfl) rfl ?_
        refine q2_inc (v := (l4 + 1)) (ls' := [some (.ref 159), some (.int p0), some (.int (if x17 = 0 then (if 0 ≤ l2 then l2 else l4) else l2)), some (.int l3), some (.int (l4 + 1)), some (.int x17)]) o_M_judged_91 rfl rfl (Nat.le_of_ble_eq_true rfl) rfl ?_
        refine q_goto o_M_judged_94 ?_
        exact q_weak (ls' := [some (.ref 159), some (.int p0), some (.int (if x17 = 0 then (if 0 ≤ l2 then l2 else l4) else l2)), some (.int l3), some (.int (l4 + 1)), none]) (And.intro rfl (And.intro rfl (And.intro rfl (And.intro rfl (And.intro rfl trivial))))) h21
      · have h22 := h14.2 c20
        refine q_aload_n o_M_judged_74 rfl ?_
        refine q_sipush (v := 1722) o_M_judged_75 (by decide) ?_
        refine q2_callVi _ (a := 159) (As := [.int 1722]) (st := []) hs16 o_M_judged_78 k_M_413 rfl rfl (Nat.le_of_ble_eq_true rfl) h22 (fun x26 σ24 hs25 h23 => ?_)
        have hJ : ∀ vJ : Int32, vJ = (if x26 = 0 then l3 else l4) → q_At G X_M_judged (d + 1) 0 0 90 [some (.ref 159), some (.int p0), some (.int (if x17 = 0 then (if 0 ≤ l2 then l2 else l4) else l2)), some (.int l3), some (.int l4), some (.int x17)] [.int vJ] σ24 Q := by
          intro vJ eJ
          rw [eJ]
          clear eJ vJ
          refine q2_istn (ls' := [some (.ref 159), some (.int p0), some (.int (if x17 = 0 then (if 0 ≤ l2 then l2 else l4) else l2)), some (.int (if x26 = 0 then l3 else l4)), some (.int l4), some (.int x17)]) o_M_judged_90 (Nat.le_of_ble_eq_true rfl) rfl ?_
          refine q2_inc (v := (l4 + 1)) (ls' := [some (.ref 159), some (.int p0), some (.int (if x17 = 0 then (if 0 ≤ l2 then l2 else l4) else l2)), some (.int (if x26 = 0 then l3 else l4)), some (.int (l4 + 1)), some (.int x17)]) o_M_judged_91 rfl rfl (Nat.le_of_ble_eq_true rfl) rfl ?_
          refine q_goto o_M_judged_94 ?_
          exact q_weak (ls' := [some (.ref 159), some (.int p0), some (.int (if x17 = 0 then (if 0 ≤ l2 then l2 else l4) else l2)), some (.int (if x26 = 0 then l3 else l4)), some (.int (l4 + 1)), none]) (And.intro rfl (And.intro rfl (And.intro rfl (And.intro rfl (And.intro rfl trivial))))) h23
        refine q_if_eq o_M_judged_81 (fun c27 => ?_) (fun c27 => ?_)
        · refine q_iload_n o_M_judged_89 rfl ?_
          exact hJ _ (Eq.symm (if_pos c27))
        · refine q_iload o_M_judged_84 rfl ?_
          refine q_goto o_M_judged_86 ?_
          exact hJ _ (Eq.symm (if_neg c27))
    refine q_if_ne o_M_judged_56 (fun c18 => ?_) (fun c18 => ?_)
    · refine q_iload_n o_M_judged_68 rfl ?_
      exact hJ _ (Eq.symm (if_neg c18))
    · refine q_iload_n o_M_judged_59 rfl ?_
      refine q_if_ge o_M_judged_60 (fun c19 => ?_) (fun c19 => ?_)
      · refine q_iload_n o_M_judged_68 rfl ?_
        exact hJ _ (Eq.symm ((if_pos c18).trans (if_pos c19)))
      · refine q_iload o_M_judged_63 rfl ?_
        refine q_goto o_M_judged_65 ?_
        exact hJ _ (Eq.symm ((if_pos c18).trans (if_neg c19)))

set_option maxRecDepth 20000 in
theorem v_M_broken_0 {G : q_G} {d : Nat} {σ : q_S} {Q : Option Value → q_S → Prop}   (hs : q_Sh σ) (h : q_Call G d 0 0 X_M_brokenBy [.ref 159, .int 0] (q_setI σ 159 0 0) (q_ri (fun x4 σ2 => Q (some (.int x4)) σ2))) : q_At G X_M_broken (d + 1) 0 0 0 [some (.ref 159)] [] σ Q := by
  refine q_aload_n o_M_broken_0 rfl ?_
  refine q_iconst (v := 0) o_M_broken_1 (by decide) ?_
  refine q2_putI hs o_M_broken_2 fp_M_1 rfl rfl rfl ?_
  refine q_aload_n o_M_broken_5 rfl ?_
  refine q_iconst (v := 0) o_M_broken_6 (by decide) ?_
  refine q2_callVi _ (a := 159) (As := [.int 0]) (st := []) hs o_M_broken_7 k_M_413 rfl rfl (Nat.le_of_ble_eq_true rfl) h (fun x4 σ2 hs3 h1 => ?_)
  exact q_ire o_M_broken_10 rfl h1

set_option maxRecDepth 20000 in
theorem v_M_findWays_0 {G : q_G} {d : Nat} {σ : q_S} {Q : Option Value → q_S → Prop}   (hs : q_Sh σ) (h : q_Call G d 0 0 X_M_lives [.ref 159, .int 0, .int 0] (q_setI σ 159 31 0) (q_rv (fun σ2 => Q none σ2))) : q_At G X_M_findWays (d + 1) 0 0 0 [some (.ref 159)] [] σ Q := by
  refine q_aload_n o_M_findWays_0 rfl ?_
  refine q_iconst (v := 0) o_M_findWays_1 (by decide) ?_
  refine q2_putI hs o_M_findWays_2 fp_M_416 rfl rfl rfl ?_
  refine q_aload_n o_M_findWays_5 rfl ?_
  refine q_iconst (v := 0) o_M_findWays_6 (by decide) ?_
  refine q_iconst (v := 0) o_M_findWays_7 (by decide) ?_
  refine q2_callVv _ (a := 159) (As := [.int 0, .int 0]) (st := []) hs o_M_findWays_8 k_M_419 rfl rfl (Nat.le_of_ble_eq_true rfl) h (fun σ2 hs3 h1 => ?_)
  exact q_vre o_M_findWays_11 rfl h1

set_option maxRecDepth 20000 in
theorem v_M_lives_0 {G : q_G} {d : Nat} {σ : q_S} {Q : Option Value → q_S → Prop} {p0 : Int32} {p1 : Int32}  (hs : q_Sh σ) (h : ((¬ p0 = (q_I σ 165 1) → q_At G X_M_lives (d + 1) 0 0 58 [some (.ref 159), some (.int p0), some (.int p1), some (.int 0)] [] σ Q) ∧ (p0 = (q_I σ 165 1) → q_At G X_M_lives (d + 1) 0 0 10 [some (.ref 159), some (.int p0), some (.int p1), some (.int 0)] [] σ Q))) : q_At G X_M_lives (d + 1) 0 0 0 [some (.ref 159), some (.int p0), some (.int p1), none] [] σ Q := by
  refine q_iload_n o_M_lives_0 rfl ?_
  refine q_aload_n o_M_lives_1 rfl ?_
  refine q2_M_families hs o_M_lives_2 k_M_309 (Nat.le_of_ble_eq_true rfl) ?_
  refine q_icmp_ne o_M_lives_5 (fun c1 => ?_) (fun c1 => ?_)
  · have h2 := h.1 c1
    refine q_iconst (v := 0) o_M_lives_56 (by decide) ?_
    refine q2_istn (ls' := [some (.ref 159), some (.int p0), some (.int p1), some (.int 0)]) o_M_lives_57 (Nat.le_of_ble_eq_true rfl) rfl ?_
    exact h2
  · have h3 := h.2 c1
    refine q_iconst (v := 0) o_M_lives_8 (by decide) ?_
    refine q2_istn (ls' := [some (.ref 159), some (.int p0), some (.int p1), some (.int 0)]) o_M_lives_9 (Nat.le_of_ble_eq_true rfl) rfl ?_
    exact h3

set_option maxRecDepth 20000 in
theorem v_M_lives_10 {G : q_G} {d : Nat} {σ : q_S} {Q : Option Value → q_S → Prop} {p0 : Int32} {p1 : Int32} {l3 : Int32}  (hs : q_Sh σ) (h : ((p0 ≤ l3 → Q none (q_setI σ 159 31 ((q_I σ 159 31) + 1))) ∧ (¬ p0 ≤ l3 → (∃ k5, (1804 + l3) = nI k5 ∧ k5 < 1886 ∧ (∃ k7, ((6 * (q_I σ 159 31)) + l3) = nI k7 ∧ k7 < 4320 ∧ q_At G X_M_lives (d + 1) 0 0 10 [some (.ref 159), some (.int p0), some (.int p1), some (.int (l3 + 1))] [] (q_setI σ 179 k7 (q_I σ 175 k5)) Q))))) : q_At G X_M_lives (d + 1) 0 0 10 [some (.ref 159), some (.int p0), some (.int p1), some (.int l3)] [] σ Q := by
  refine q_iload_n o_M_lives_10 rfl ?_
  refine q_iload_n o_M_lives_11 rfl ?_
  refine q_icmp_ge o_M_lives_12 (fun c1 => ?_) (fun c1 => ?_)
  · have h2 := h.1 c1
    refine q_aload_n o_M_lives_45 rfl ?_
    refine q_dup o_M_lives_46 rfl ?_
    refine q2_getI hs o_M_lives_47 f_M_416 rfl ?_
    refine q_iconst (v := 1) o_M_lives_50 (by decide) ?_
    refine q_iadd o_M_lives_51 ?_
    refine q2_putI hs o_M_lives_52 fp_M_416 rfl rfl rfl ?_
    exact q_vre o_M_lives_55 rfl h2
  · have h3 := h.2 c1
    refine q_aload_n o_M_lives_15 rfl ?_
    refine q2_getR hs o_M_lives_16 f_M_146 rfl (fz_159_30 hs) ?_
    refine q_bipush (v := 6) o_M_lives_19 (by decide) ?_
    refine q_aload_n o_M_lives_21 rfl ?_
    refine q2_getI hs o_M_lives_22 f_M_416 rfl ?_
    refine q_imul o_M_lives_25 ?_
    refine q_iload_n o_M_lives_26 rfl ?_
    refine q_iadd o_M_lives_27 ?_
    refine q_aload_n o_M_lives_28 rfl ?_
    refine q2_getR hs o_M_lives_29 f_M_133 rfl (fz_159_24 hs) ?_
    refine q_sipush (v := 1804) o_M_lives_32 (by decide) ?_
    refine q_iload_n o_M_lives_35 rfl ?_
    refine q_iadd o_M_lives_36 ?_
    obtain ⟨k5, eh4, bh4, h4⟩ := h3
    refine q2_iald hs o_M_lives_37 rfl eh4 bh4 (by decide) ?_
    obtain ⟨k7, eh6, bh6, h6⟩ := h4
    refine q2_iast hs o_M_lives_38 rfl eh6 bh6 (by decide) ?_
    refine q2_inc (v := (l3 + 1)) (ls' := [some (.ref 159), some (.int p0), some (.int p1), some (.int (l3 + 1))]) o_M_lives_39 rfl rfl (Nat.le_of_ble_eq_true rfl) rfl ?_
    refine q_goto o_M_lives_42 ?_
    exact h6

set_option maxRecDepth 20000 in
theorem v_M_lives_58 {G : q_G} {d : Nat} {σ : q_S} {Q : Option Value → q_S → Prop} {p0 : Int32} {p1 : Int32} {l3 : Int32}  (hs : q_Sh σ) (h : (((q_I σ 165 0) ≤ l3 → Q none σ) ∧ (¬ (q_I σ 165 0) ≤ l3 → ((¬ ((p1 >>> (l3 &&& 31)) &&& 1) = 0 → q_At G X_M_lives (d + 1) 0 0 58 [some (.ref 159), some (.int p0), some (.int p1), some (.int (l3 + 1))] [] σ Q) ∧ (((p1 >>> (l3 &&& 31)) &&& 1) = 0 → (∃ k8, (1804 + p0) = nI k8 ∧ k8 < 1886 ∧ q_Call G d 0 0 X_M_lives [.ref 159, .int (p0 + 1), .int (p1 ||| ((1 : Int32) <<< (l3 &&& 31)))] (q_setI σ 175 k8 l3) (q_rv (fun σ10 => q_At G X_M_lives (d + 1) 0 0 58 [some (.ref 159), some (.int p0), some (.int p1), some (.int (l3 + 1))] [] σ10 Q)))))))) : q_At G X_M_lives (d + 1) 0 0 58 [some (.ref 159), some (.int p0), some (.int p1), some (.int l3)] [] σ Q := by
  refine q_iload_n o_M_lives_58 rfl ?_
  refine q_aload_n o_M_lives_59 rfl ?_
  refine q2_M_houses hs o_M_lives_60 k_M_329 (Nat.le_of_ble_eq_true rfl) ?_
  refine q_icmp_ge o_M_lives_63 (fun c1 => ?_) (fun c1 => ?_)
  · have h2 := h.1 c1
    exact q_vre o_M_lives_103 rfl h2
  · have h3 := h.2 c1
    refine q_iload_n o_M_lives_66 rfl ?_
    refine q_iload_n o_M_lives_67 rfl ?_
    refine q_ishr o_M_lives_68 ?_
    refine q_iconst (v := 1) o_M_lives_69 (by decide) ?_
    refine q_iand o_M_lives_70 ?_
    refine q_if_ne o_M_lives_71 (fun c4 => ?_) (fun c4 => ?_)
    · have h5 := h3.1 c4
      refine q2_inc (v := (l3 + 1)) (ls' := [some (.ref 159), some (.int p0), some (.int p1), some (.int (l3 + 1))]) o_M_lives_97 rfl rfl (Nat.le_of_ble_eq_true rfl) rfl ?_
      refine q_goto o_M_lives_100 ?_
      exact h5
    · have h6 := h3.2 c4
      refine q_aload_n o_M_lives_74 rfl ?_
      refine q2_getR hs o_M_lives_75 f_M_133 rfl (fz_159_24 hs) ?_
      refine q_sipush (v := 1804) o_M_lives_78 (by decide) ?_
      refine q_iload_n o_M_lives_81 rfl ?_
      refine q_iadd o_M_lives_82 ?_
      refine q_iload_n o_M_lives_83 rfl ?_
      obtain ⟨k8, eh7, bh7, h7⟩ := h6
      refine q2_iast hs o_M_lives_84 rfl eh7 bh7 (by decide) ?_
      refine q_aload_n o_M_lives_85 rfl ?_
      refine q_iload_n o_M_lives_86 rfl ?_
      refine q_iconst (v := 1) o_M_lives_87 (by decide) ?_
      refine q_iadd o_M_lives_88 ?_
      refine q_iload_n o_M_lives_89 rfl ?_
      refine q_iconst (v := 1) o_M_lives_90 (by decide) ?_
      refine q_iload_n o_M_lives_91 rfl ?_
      refine q_ishl o_M_lives_92 ?_
      refine q_ior o_M_lives_93 ?_
      refine q2_callVv _ (a := 159) (As := [.int (p0 + 1), .int (p1 ||| ((1 : Int32) <<< (l3 &&& 31)))]) (st := []) hs o_M_lives_94 k_M_419 rfl rfl (Nat.le_of_ble_eq_true rfl) h7 (fun σ10 hs11 h9 => ?_)
      refine q2_inc (v := (l3 + 1)) (ls' := [some (.ref 159), some (.int p0), some (.int p1), some (.int (l3 + 1))]) o_M_lives_97 rfl rfl (Nat.le_of_ble_eq_true rfl) rfl ?_
      refine q_goto o_M_lives_100 ?_
      exact h9

set_option maxRecDepth 20000 in
theorem v_M_laysWay_0 {G : q_G} {d : Nat} {σ : q_S} {Q : Option Value → q_S → Prop} {p0 : Int32}  (hs : q_Sh σ) (h : q_At G X_M_laysWay (d + 1) 0 0 2 [some (.ref 159), some (.int p0), some (.int 0)] [] σ Q) : q_At G X_M_laysWay (d + 1) 0 0 0 [some (.ref 159), some (.int p0), none] [] σ Q := by
  refine q_iconst (v := 0) o_M_laysWay_0 (by decide) ?_
  refine q2_istn (ls' := [some (.ref 159), some (.int p0), some (.int 0)]) o_M_laysWay_1 (Nat.le_of_ble_eq_true rfl) rfl ?_
  exact h

set_option maxRecDepth 20000 in
theorem v_M_laysWay_2 {G : q_G} {d : Nat} {σ : q_S} {Q : Option Value → q_S → Prop} {p0 : Int32} {l2 : Int32}  (hs : q_Sh σ) (h : (((q_I σ 165 1) ≤ l2 → Q none σ) ∧ (¬ (q_I σ 165 1) ≤ l2 → (∃ k5, ((6 * p0) + l2) = nI k5 ∧ k5 < 4320 ∧ (∃ k7, (1804 + l2) = nI k7 ∧ k7 < 1886 ∧ q_At G X_M_laysWay (d + 1) 0 0 2 [some (.ref 159), some (.int p0), some (.int (l2 + 1))] [] (q_setI σ 175 k7 (q_I σ 179 k5)) Q))))) : q_At G X_M_laysWay (d + 1) 0 0 2 [some (.ref 159), some (.int p0), some (.int l2)] [] σ Q := by
  refine q_iload_n o_M_laysWay_2 rfl ?_
  refine q_aload_n o_M_laysWay_3 rfl ?_
  refine q2_M_families hs o_M_laysWay_4 k_M_309 (Nat.le_of_ble_eq_true rfl) ?_
  refine q_icmp_ge o_M_laysWay_7 (fun c1 => ?_) (fun c1 => ?_)
  · have h2 := h.1 c1
    exact q_vre o_M_laysWay_37 rfl h2
  · have h3 := h.2 c1
    refine q_aload_n o_M_laysWay_10 rfl ?_
    refine q2_getR hs o_M_laysWay_11 f_M_133 rfl (fz_159_24 hs) ?_
    refine q_sipush (v := 1804) o_M_laysWay_14 (by decide) ?_
    refine q_iload_n o_M_laysWay_17 rfl ?_
    refine q_iadd o_M_laysWay_18 ?_
    refine q_aload_n o_M_laysWay_19 rfl ?_
    refine q2_getR hs o_M_laysWay_20 f_M_146 rfl (fz_159_30 hs) ?_
    refine q_bipush (v := 6) o_M_laysWay_23 (by decide) ?_
    refine q_iload_n o_M_laysWay_25 rfl ?_
    refine q_imul o_M_laysWay_26 ?_
    refine q_iload_n o_M_laysWay_27 rfl ?_
    refine q_iadd o_M_laysWay_28 ?_
    obtain ⟨k5, eh4, bh4, h4⟩ := h3
    refine q2_iald hs o_M_laysWay_29 rfl eh4 bh4 (by decide) ?_
    obtain ⟨k7, eh6, bh6, h6⟩ := h4
    refine q2_iast hs o_M_laysWay_30 rfl eh6 bh6 (by decide) ?_
    refine q2_inc (v := (l2 + 1)) (ls' := [some (.ref 159), some (.int p0), some (.int (l2 + 1))]) o_M_laysWay_31 rfl rfl (Nat.le_of_ble_eq_true rfl) rfl ?_
    refine q_goto o_M_laysWay_34 ?_
    exact h6

set_option maxRecDepth 20000 in
theorem v_M_waysNear_0 {G : q_G} {d : Nat} {σ : q_S} {Q : Option Value → q_S → Prop} {p0 : Int32} {p1 : Int32}  (hs : q_Sh σ) (h : q_At G X_M_waysNear (d + 1) 0 0 5 [some (.ref 159), some (.int p0), some (.int p1), some (.int 0), some (.int 0)] [] σ Q) : q_At G X_M_waysNear (d + 1) 0 0 0 [some (.ref 159), some (.int p0), some (.int p1), none, none] [] σ Q := by
  refine q_iconst (v := 0) o_M_waysNear_0 (by decide) ?_
  refine q2_istn (ls' := [some (.ref 159), some (.int p0), some (.int p1), some (.int 0), none]) o_M_waysNear_1 (Nat.le_of_ble_eq_true rfl) rfl ?_
  refine q_iconst (v := 0) o_M_waysNear_2 (by decide) ?_
  refine q2_ist (ls' := [some (.ref 159), some (.int p0), some (.int p1), some (.int 0), some (.int 0)]) o_M_waysNear_3 (Nat.le_of_ble_eq_true rfl) rfl ?_
  exact h

set_option maxRecDepth 20000 in
theorem v_M_waysNear_5 {G : q_G} {d : Nat} {σ : q_S} {Q : Option Value → q_S → Prop} {p0 : Int32} {p1 : Int32} {l3 : Int32} {l4 : Int32}  (hs : q_Sh σ) (h : (((q_I σ 159 31) ≤ l4 → Q (some (.int l3)) σ) ∧ (¬ (q_I σ 159 31) ≤ l4 → q_Call G d 0 0 X_M_laysWay [.ref 159, .int l4] σ (q_rv (fun σ5 => q_Call G d 0 0 X_M_wallBy [.ref 159, .int 1804, .int p0, .int p1] σ5 (q_ri (fun x10 σ8 => q_At G X_M_waysNear (d + 1) 0 0 5 [some (.ref 159), some (.int p0), some (.int p1), some (.int (l3 + (if x10 ≤ 0 then (0 : Int32) else (1 : Int32)))), some (.int (l4 + 1))] [] σ8 Q))))))) : q_At G X_M_waysNear (d + 1) 0 0 5 [some (.ref 159), some (.int p0), some (.int p1), some (.int l3), some (.int l4)] [] σ Q := by
  refine q_iload o_M_waysNear_5 rfl ?_
  refine q_aload_n o_M_waysNear_7 rfl ?_
  refine q2_getI hs o_M_waysNear_8 f_M_416 rfl ?_
  refine q_icmp_ge o_M_waysNear_11 (fun c1 => ?_) (fun c1 => ?_)
  · have h2 := h.1 c1
    refine q_iload_n o_M_waysNear_46 rfl ?_
    exact q_ire o_M_waysNear_47 rfl h2
  · have h3 := h.2 c1
    refine q_aload_n o_M_waysNear_14 rfl ?_
    refine q_iload o_M_waysNear_15 rfl ?_
    refine q2_callVv _ (a := 159) (As := [.int l4]) (st := []) hs o_M_waysNear_17 k_M_422 rfl rfl (Nat.le_of_ble_eq_true rfl) h3 (fun σ5 hs6 h4 => ?_)
    refine q_iload_n o_M_waysNear_20 rfl ?_
    refine q_aload_n o_M_waysNear_21 rfl ?_
    refine q_sipush (v := 1804) o_M_waysNear_22 (by decide) ?_
    refine q_iload_n o_M_waysNear_25 rfl ?_
    refine q_iload_n o_M_waysNear_26 rfl ?_
    refine q2_callVi _ (a := 159) (As := [.int 1804, .int p0, .int p1]) (st := [.int l3]) hs6 o_M_waysNear_27 k_M_344 rfl rfl (Nat.le_of_ble_eq_true rfl) h4 (fun x10 σ8 hs9 h7 => ?_)
    have hJ : ∀ vJ : Int32, vJ = (if x10 ≤ 0 then (0 : Int32) else (1 : Int32)) → q_At G X_M_waysNear (d + 1) 0 0 38 [some (.ref 159), some (.int p0), some (.int p1), some (.int l3), some (.int l4)] [.int vJ, .int l3] σ8 Q := by
      intro vJ eJ
      rw [eJ]
      clear eJ vJ
      refine q_iadd o_M_waysNear_38 ?_
      refine q2_istn (ls' := [some (.ref 159), some (.int p0), some (.int p1), some (.int (l3 + (if x10 ≤ 0 then (0 : Int32) else (1 : Int32)))), some (.int l4)]) o_M_waysNear_39 (Nat.le_of_ble_eq_true rfl) rfl ?_
      refine q2_inc (v := (l4 + 1)) (ls' := [some (.ref 159), some (.int p0), some (.int p1), some (.int (l3 + (if x10 ≤ 0 then (0 : Int32) else (1 : Int32)))), some (.int (l4 + 1))]) o_M_waysNear_40 rfl rfl (Nat.le_of_ble_eq_true rfl) rfl ?_
      refine q_goto o_M_waysNear_43 ?_
      exact h7
    refine q_if_le o_M_waysNear_30 (fun c11 => ?_) (fun c11 => ?_)
    · refine q_iconst (v := 0) o_M_waysNear_37 (by decide) ?_
      exact hJ _ (Eq.symm (if_pos c11))
    · refine q_iconst (v := 1) o_M_waysNear_33 (by decide) ?_
      refine q_goto o_M_waysNear_34 ?_
      exact hJ _ (Eq.symm (if_neg c11))

set_option maxRecDepth 20000 in
theorem v_M_odds_0 {G : q_G} {d : Nat} {σ : q_S} {Q : Option Value → q_S → Prop} {p0 : Int32} {p1 : Int32}  (hs : q_Sh σ) (h : q_Call G d 0 0 X_M_areTwo [.ref 159, .int p0, .int p1] (q_setI σ 159 0 0) (q_ri (fun x4 σ2 => ((¬ x4 = 0 → q_Call G d 0 0 X_M_findWays [.ref 159] σ2 (q_rv (fun σ8 => q_Call G d 0 0 X_M_waysNear [.ref 159, .int p0, .int p1] σ8 (q_ri (fun x13 σ11 => (¬ (q_I σ11 159 31).toInt64 = 0 ∧ Q (some (.int (((x13.toInt64 * 1000000) / (q_I σ11 159 31).toInt64).toInt32))) σ11)))))) ∧ (x4 = 0 → Q (some (.int (-1))) σ2))))) : q_At G X_M_odds (d + 1) 0 0 0 [some (.ref 159), some (.int p0), some (.int p1)] [] σ Q := by
  refine q_aload_n o_M_odds_0 rfl ?_
  refine q_iconst (v := 0) o_M_odds_1 (by decide) ?_
  refine q2_putI hs o_M_odds_2 fp_M_1 rfl rfl rfl ?_
  refine q_aload_n o_M_odds_5 rfl ?_
  refine q_iload_n o_M_odds_6 rfl ?_
  refine q_iload_n o_M_odds_7 rfl ?_
  refine q2_callVi _ (a := 159) (As := [.int p0, .int p1]) (st := []) hs o_M_odds_8 k_M_362 rfl rfl (Nat.le_of_ble_eq_true rfl) h (fun x4 σ2 hs3 h1 => ?_)
  refine q_if_ne o_M_odds_11 (fun c5 => ?_) (fun c5 => ?_)
  · have h6 := h1.1 c5
    refine q_aload_n o_M_odds_16 rfl ?_
    refine q2_callVv _ (a := 159) (As := []) (st := []) hs3 o_M_odds_17 k_M_425 rfl rfl (Nat.le_of_ble_eq_true rfl) h6 (fun σ8 hs9 h7 => ?_)
    refine q_aload_n o_M_odds_20 rfl ?_
    refine q_iload_n o_M_odds_21 rfl ?_
    refine q_iload_n o_M_odds_22 rfl ?_
    refine q2_callVi _ (a := 159) (As := [.int p0, .int p1]) (st := []) hs9 o_M_odds_23 k_M_428 rfl rfl (Nat.le_of_ble_eq_true rfl) h7 (fun x13 σ11 hs12 h10 => ?_)
    refine q_i2l o_M_odds_26 ?_
    refine q_ldc2 o_M_odds_27 n_M_431 ?_
    refine q_lmul o_M_odds_30 ?_
    refine q_aload_n o_M_odds_31 rfl ?_
    refine q2_getI hs12 o_M_odds_32 f_M_416 rfl ?_
    refine q_i2l o_M_odds_35 ?_
    obtain ⟨h14n, h14⟩ := h10
    refine q_ldiv o_M_odds_36 h14n ?_
    refine q_l2i o_M_odds_37 ?_
    exact q_ire o_M_odds_38 rfl h14
  · have h15 := h1.2 c5
    refine q_iconst (v := (-1)) o_M_odds_14 (by decide) ?_
    exact q_ire o_M_odds_15 rfl h15

set_option maxRecDepth 20000 in
theorem v_M_peace_0 {G : q_G} {d : Nat} {σ : q_S} {Q : Option Value → q_S → Prop} {p0 : Int32} {p1 : Int32}  (hs : q_Sh σ) (h : q_Call G d 0 0 X_M_isFamily [.ref 159, .int p0] (q_setI σ 159 0 0) (q_ri (fun x4 σ2 => ((x4 = 0 → Q (some (.int (-1))) σ2) ∧ (¬ x4 = 0 → q_Call G d 0 0 X_M_within [.int p1, .int 0, .int 999] σ2 (q_ri (fun x11 σ9 => ((¬ x11 = 0 → q_Call G d 0 0 X_M_findWays [.ref 159] σ9 (q_rv (fun σ15 => q_At G X_M_peace (d + 1) 0 0 35 [some (.ref 159), some (.int p0), some (.int p1), some (.int 0), some (.int 0)] [] σ15 Q))) ∧ (x11 = 0 → Q (some (.int (-1))) σ9))))))))) : q_At G X_M_peace (d + 1) 0 0 0 [some (.ref 159), some (.int p0), some (.int p1), none, none] [] σ Q := by
  refine q_aload_n o_M_peace_0 rfl ?_
  refine q_iconst (v := 0) o_M_peace_1 (by decide) ?_
  refine q2_putI hs o_M_peace_2 fp_M_1 rfl rfl rfl ?_
  refine q_aload_n o_M_peace_5 rfl ?_
  refine q_iload_n o_M_peace_6 rfl ?_
  refine q2_callVi _ (a := 159) (As := [.int p0]) (st := []) hs o_M_peace_7 k_M_332 rfl rfl (Nat.le_of_ble_eq_true rfl) h (fun x4 σ2 hs3 h1 => ?_)
  refine q_if_eq o_M_peace_10 (fun c5 => ?_) (fun c5 => ?_)
  · have h6 := h1.1 c5
    refine q_iconst (v := (-1)) o_M_peace_24 (by decide) ?_
    exact q_ire o_M_peace_25 rfl h6
  · have h7 := h1.2 c5
    refine q_iload_n o_M_peace_13 rfl ?_
    refine q_iconst (v := 0) o_M_peace_14 (by decide) ?_
    refine q_sipush (v := 999) o_M_peace_15 (by decide) ?_
    refine q2_callSi _ (As := [.int p1, .int 0, .int 999]) (st := []) hs3 o_M_peace_18 k_M_227 rfl (Nat.le_of_ble_eq_true rfl) h7 (fun x11 σ9 hs10 h8 => ?_)
    refine q_if_ne o_M_peace_21 (fun c12 => ?_) (fun c12 => ?_)
    · have h13 := h8.1 c12
      refine q_aload_n o_M_peace_26 rfl ?_
      refine q2_callVv _ (a := 159) (As := []) (st := []) hs10 o_M_peace_27 k_M_425 rfl rfl (Nat.le_of_ble_eq_true rfl) h13 (fun σ15 hs16 h14 => ?_)
      refine q_iconst (v := 0) o_M_peace_30 (by decide) ?_
      refine q2_istn (ls' := [some (.ref 159), some (.int p0), some (.int p1), some (.int 0), none]) o_M_peace_31 (Nat.le_of_ble_eq_true rfl) rfl ?_
      refine q_iconst (v := 0) o_M_peace_32 (by decide) ?_
      refine q2_ist (ls' := [some (.ref 159), some (.int p0), some (.int p1), some (.int 0), some (.int 0)]) o_M_peace_33 (Nat.le_of_ble_eq_true rfl) rfl ?_
      exact h14
    · have h17 := h8.2 c12
      refine q_iconst (v := (-1)) o_M_peace_24 (by decide) ?_
      exact q_ire o_M_peace_25 rfl h17

set_option maxRecDepth 20000 in
theorem v_M_peace_35 {G : q_G} {d : Nat} {σ : q_S} {Q : Option Value → q_S → Prop} {p0 : Int32} {p1 : Int32} {l3 : Int32} {l4 : Int32}  (hs : q_Sh σ) (h : (((q_I σ 159 31) ≤ l4 → (¬ (q_I σ 159 31).toInt64 = 0 ∧ Q (some (.int (((l3.toInt64 * 1000000) / (q_I σ 159 31).toInt64).toInt32))) σ)) ∧ (¬ (q_I σ 159 31) ≤ l4 → q_Call G d 0 0 X_M_laysWay [.ref 159, .int l4] σ (q_rv (fun σ6 => q_Call G d 0 0 X_M_feltBy [.ref 159, .int 1804, .int p0] σ6 (q_ri (fun x11 σ9 => q_At G X_M_peace (d + 1) 0 0 35 [some (.ref 159), some (.int p0), some (.int p1), some (.int (l3 + (if p1 < x11 then (0 : Int32) else (1 : Int32)))), some (.int (l4 + 1))] [] σ9 Q))))))) : q_At G X_M_peace (d + 1) 0 0 35 [some (.ref 159), some (.int p0), some (.int p1), some (.int l3), some (.int l4)] [] σ Q := by
  refine q_iload o_M_peace_35 rfl ?_
  refine q_aload_n o_M_peace_37 rfl ?_
  refine q2_getI hs o_M_peace_38 f_M_416 rfl ?_
  refine q_icmp_ge o_M_peace_41 (fun c1 => ?_) (fun c1 => ?_)
  · have h2 := h.1 c1
    refine q_iload_n o_M_peace_76 rfl ?_
    refine q_i2l o_M_peace_77 ?_
    refine q_ldc2 o_M_peace_78 n_M_431 ?_
    refine q_lmul o_M_peace_81 ?_
    refine q_aload_n o_M_peace_82 rfl ?_
    refine q2_getI hs o_M_peace_83 f_M_416 rfl ?_
    refine q_i2l o_M_peace_86 ?_
    obtain ⟨h3n, h3⟩ := h2
    refine q_ldiv o_M_peace_87 h3n ?_
    refine q_l2i o_M_peace_88 ?_
    exact q_ire o_M_peace_89 rfl h3
  · have h4 := h.2 c1
    refine q_aload_n o_M_peace_44 rfl ?_
    refine q_iload o_M_peace_45 rfl ?_
    refine q2_callVv _ (a := 159) (As := [.int l4]) (st := []) hs o_M_peace_47 k_M_422 rfl rfl (Nat.le_of_ble_eq_true rfl) h4 (fun σ6 hs7 h5 => ?_)
    refine q_iload_n o_M_peace_50 rfl ?_
    refine q_aload_n o_M_peace_51 rfl ?_
    refine q_sipush (v := 1804) o_M_peace_52 (by decide) ?_
    refine q_iload_n o_M_peace_55 rfl ?_
    refine q2_callVi _ (a := 159) (As := [.int 1804, .int p0]) (st := [.int l3]) hs7 o_M_peace_56 k_M_350 rfl rfl (Nat.le_of_ble_eq_true rfl) h5 (fun x11 σ9 hs10 h8 => ?_)
    refine q_iload_n o_M_peace_59 rfl ?_
    have hJ : ∀ vJ : Int32, vJ = (if p1 < x11 then (0 : Int32) else (1 : Int32)) → q_At G X_M_peace (d + 1) 0 0 68 [some (.ref 159), some (.int p0), some (.int p1), some (.int l3), some (.int l4)] [.int vJ, .int l3] σ9 Q := by
      intro vJ eJ
      rw [eJ]
      clear eJ vJ
      refine q_iadd o_M_peace_68 ?_
      refine q2_istn (ls' := [some (.ref 159), some (.int p0), some (.int p1), some (.int (l3 + (if p1 < x11 then (0 : Int32) else (1 : Int32)))), some (.int l4)]) o_M_peace_69 (Nat.le_of_ble_eq_true rfl) rfl ?_
      refine q2_inc (v := (l4 + 1)) (ls' := [some (.ref 159), some (.int p0), some (.int p1), some (.int (l3 + (if p1 < x11 then (0 : Int32) else (1 : Int32)))), some (.int (l4 + 1))]) o_M_peace_70 rfl rfl (Nat.le_of_ble_eq_true rfl) rfl ?_
      refine q_goto o_M_peace_73 ?_
      exact h8
    refine q_icmp_gt o_M_peace_60 (fun c12 => ?_) (fun c12 => ?_)
    · refine q_iconst (v := 0) o_M_peace_67 (by decide) ?_
      exact hJ _ (Eq.symm (if_pos c12))
    · refine q_iconst (v := 1) o_M_peace_63 (by decide) ?_
      refine q_goto o_M_peace_64 ?_
      exact hJ _ (Eq.symm (if_neg c12))

set_option maxRecDepth 20000 in
theorem v_M_hope_0 {G : q_G} {d : Nat} {σ : q_S} {Q : Option Value → q_S → Prop} {p0 : Int32}  (hs : q_Sh σ) (h : q_Call G d 0 0 X_M_isFamily [.ref 159, .int p0] σ (q_ri (fun x4 σ2 => (((q_I (q_setI σ2 159 0 (if x4 = 0 then (1 : Int32) else (0 : Int32))) 159 0) ≤ 0 → q_Call G d 0 0 X_M_findWays [.ref 159] (q_setI σ2 159 0 (if x4 = 0 then (1 : Int32) else (0 : Int32))) (q_rv (fun σ9 => q_At G X_M_hope (d + 1) 0 0 35 [some (.ref 159), some (.int p0), some (.long 0), none, some (.int 0)] [] σ9 Q))) ∧ (¬ (q_I (q_setI σ2 159 0 (if x4 = 0 then (1 : Int32) else (0 : Int32))) 159 0) ≤ 0 → Q (some (.int 0)) (q_setI σ2 159 0 (if x4 = 0 then (1 : Int32) else (0 : Int32)))))))) : q_At G X_M_hope (d + 1) 0 0 0 [some (.ref 159), some (.int p0), none, none, none] [] σ Q := by
  refine q_aload_n o_M_hope_0 rfl ?_
  refine q_aload_n o_M_hope_1 rfl ?_
  refine q_iload_n o_M_hope_2 rfl ?_
  refine q2_callVi _ (a := 159) (As := [.int p0]) (st := [.ref 159]) hs o_M_hope_3 k_M_332 rfl rfl (Nat.le_of_ble_eq_true rfl) h (fun x4 σ2 hs3 h1 => ?_)
  have hJ : ∀ vJ : Int32, vJ = (if x4 = 0 then (1 : Int32) else (0 : Int32)) → q_At G X_M_hope (d + 1) 0 0 14 [some (.ref 159), some (.int p0), none, none, none] [.int vJ, .ref 159] σ2 Q := by
    intro vJ eJ
    rw [eJ]
    clear eJ vJ
    refine q2_putI hs3 o_M_hope_14 fp_M_1 rfl rfl rfl ?_
    refine q_aload_n o_M_hope_17 rfl ?_
    refine q2_getI hs3 o_M_hope_18 f_M_1 rfl ?_
    refine q_if_le o_M_hope_21 (fun c6 => ?_) (fun c6 => ?_)
    · have h7 := h1.1 c6
      refine q_aload_n o_M_hope_26 rfl ?_
      refine q2_callVv _ (a := 159) (As := []) (st := []) hs3 o_M_hope_27 k_M_425 rfl rfl (Nat.le_of_ble_eq_true rfl) h7 (fun σ9 hs10 h8 => ?_)
      refine q_lconst (v := 0) o_M_hope_30 (by decide) ?_
      refine q2_lstn (ls' := [some (.ref 159), some (.int p0), some (.long 0), none, none]) o_M_hope_31 (Nat.le_of_ble_eq_true rfl) rfl ?_
      refine q_iconst (v := 0) o_M_hope_32 (by decide) ?_
      refine q2_ist (ls' := [some (.ref 159), some (.int p0), some (.long 0), none, some (.int 0)]) o_M_hope_33 (Nat.le_of_ble_eq_true rfl) rfl ?_
      exact h8
    · have h11 := h1.2 c6
      refine q_iconst (v := 0) o_M_hope_24 (by decide) ?_
      exact q_ire o_M_hope_25 rfl h11
  refine q_if_eq o_M_hope_6 (fun c5 => ?_) (fun c5 => ?_)
  · refine q_iconst (v := 1) o_M_hope_13 (by decide) ?_
    exact hJ _ (Eq.symm (if_pos c5))
  · refine q_iconst (v := 0) o_M_hope_9 (by decide) ?_
    refine q_goto o_M_hope_10 ?_
    exact hJ _ (Eq.symm (if_neg c5))

set_option maxRecDepth 20000 in
theorem v_M_hope_35 {G : q_G} {d : Nat} {σ : q_S} {Q : Option Value → q_S → Prop} {p0 : Int32} {l2 : Int64} {l4 : Int32}  (hs : q_Sh σ) (h : (((q_I σ 159 31) ≤ l4 → (¬ (q_I σ 159 31).toInt64 = 0 ∧ Q (some (.int (((l2 * 1000) / (q_I σ 159 31).toInt64).toInt32))) σ)) ∧ (¬ (q_I σ 159 31) ≤ l4 → q_Call G d 0 0 X_M_laysWay [.ref 159, .int l4] σ (q_rv (fun σ6 => q_Call G d 0 0 X_M_joyBy [.ref 159, .int 1804, .int p0] σ6 (q_ri (fun x11 σ9 => q_At G X_M_hope (d + 1) 0 0 35 [some (.ref 159), some (.int p0), some (.long (l2 + x11.toInt64)), none, some (.int (l4 + 1))] [] σ9 Q))))))) : q_At G X_M_hope (d + 1) 0 0 35 [some (.ref 159), some (.int p0), some (.long l2), none, some (.int l4)] [] σ Q := by
  refine q_iload o_M_hope_35 rfl ?_
  refine q_aload_n o_M_hope_37 rfl ?_
  refine q2_getI hs o_M_hope_38 f_M_416 rfl ?_
  refine q_icmp_ge o_M_hope_41 (fun c1 => ?_) (fun c1 => ?_)
  · have h2 := h.1 c1
    refine q_lload_n o_M_hope_68 rfl ?_
    refine q_ldc2 o_M_hope_69 n_M_433 ?_
    refine q_lmul o_M_hope_72 ?_
    refine q_aload_n o_M_hope_73 rfl ?_
    refine q2_getI hs o_M_hope_74 f_M_416 rfl ?_
    refine q_i2l o_M_hope_77 ?_
    obtain ⟨h3n, h3⟩ := h2
    refine q_ldiv o_M_hope_78 h3n ?_
    refine q_l2i o_M_hope_79 ?_
    exact q_ire o_M_hope_80 rfl h3
  · have h4 := h.2 c1
    refine q_aload_n o_M_hope_44 rfl ?_
    refine q_iload o_M_hope_45 rfl ?_
    refine q2_callVv _ (a := 159) (As := [.int l4]) (st := []) hs o_M_hope_47 k_M_422 rfl rfl (Nat.le_of_ble_eq_true rfl) h4 (fun σ6 hs7 h5 => ?_)
    refine q_lload_n o_M_hope_50 rfl ?_
    refine q_aload_n o_M_hope_51 rfl ?_
    refine q_sipush (v := 1804) o_M_hope_52 (by decide) ?_
    refine q_iload_n o_M_hope_55 rfl ?_
    refine q2_callVi _ (a := 159) (As := [.int 1804, .int p0]) (st := [.long l2]) hs7 o_M_hope_56 k_M_353 rfl rfl (Nat.le_of_ble_eq_true rfl) h5 (fun x11 σ9 hs10 h8 => ?_)
    refine q_i2l o_M_hope_59 ?_
    refine q_ladd o_M_hope_60 ?_
    refine q2_lstn (ls' := [some (.ref 159), some (.int p0), some (.long (l2 + x11.toInt64)), none, some (.int l4)]) o_M_hope_61 (Nat.le_of_ble_eq_true rfl) rfl ?_
    refine q2_inc (v := (l4 + 1)) (ls' := [some (.ref 159), some (.int p0), some (.long (l2 + x11.toInt64)), none, some (.int (l4 + 1))]) o_M_hope_62 rfl rfl (Nat.le_of_ble_eq_true rfl) rfl ?_
    refine q_goto o_M_hope_65 ?_
    exact h8

set_option maxRecDepth 20000 in
theorem v_M_whoLives_0 {G : q_G} {d : Nat} {σ : q_S} {Q : Option Value → q_S → Prop} {p0 : Int32} {p1 : Int32}  (hs : q_Sh σ) (h : q_At G X_M_whoLives (d + 1) 0 0 5 [some (.ref 159), some (.int p0), some (.int p1), some (.int (-1)), some (.int 0)] [] σ Q) : q_At G X_M_whoLives (d + 1) 0 0 0 [some (.ref 159), some (.int p0), some (.int p1), none, none] [] σ Q := by
  refine q_iconst (v := (-1)) o_M_whoLives_0 (by decide) ?_
  refine q2_istn (ls' := [some (.ref 159), some (.int p0), some (.int p1), some (.int (-1)), none]) o_M_whoLives_1 (Nat.le_of_ble_eq_true rfl) rfl ?_
  refine q_iconst (v := 0) o_M_whoLives_2 (by decide) ?_
  refine q2_ist (ls' := [some (.ref 159), some (.int p0), some (.int p1), some (.int (-1)), some (.int 0)]) o_M_whoLives_3 (Nat.le_of_ble_eq_true rfl) rfl ?_
  exact h

set_option maxRecDepth 20000 in
theorem v_M_whoLives_5 {G : q_G} {d : Nat} {σ : q_S} {Q : Option Value → q_S → Prop} {p0 : Int32} {p1 : Int32} {l3 : Int32} {l4 : Int32}  (hs : q_Sh σ) (h : (((q_I σ 165 1) ≤ l4 → Q (some (.int l3)) σ) ∧ (¬ (q_I σ 165 1) ≤ l4 → (∃ k5, ((p0 + 0) + l4) = nI k5 ∧ k5 < 1886 ∧ q_At G X_M_whoLives (d + 1) 0 0 5 [some (.ref 159), some (.int p0), some (.int p1), some (.int (if (q_I σ 175 k5) = p1 then l4 else l3)), some (.int (l4 + 1))] [] σ Q)))) : q_At G X_M_whoLives (d + 1) 0 0 5 [some (.ref 159), some (.int p0), some (.int p1), some (.int l3), some (.int l4)] [] σ Q := by
  refine q_iload o_M_whoLives_5 rfl ?_
  refine q_aload_n o_M_whoLives_7 rfl ?_
  refine q2_M_families hs o_M_whoLives_8 k_M_309 (Nat.le_of_ble_eq_true rfl) ?_
  refine q_icmp_ge o_M_whoLives_11 (fun c1 => ?_) (fun c1 => ?_)
  · have h2 := h.1 c1
    refine q_iload_n o_M_whoLives_42 rfl ?_
    exact q_ire o_M_whoLives_43 rfl h2
  · have h3 := h.2 c1
    refine q_aload_n o_M_whoLives_14 rfl ?_
    refine q2_getR hs o_M_whoLives_15 f_M_133 rfl (fz_159_24 hs) ?_
    refine q_iload_n o_M_whoLives_18 rfl ?_
    refine q_iconst (v := 0) o_M_whoLives_19 (by decide) ?_
    refine q_iadd o_M_whoLives_20 ?_
    refine q_iload o_M_whoLives_21 rfl ?_
    refine q_iadd o_M_whoLives_23 ?_
    obtain ⟨k5, eh4, bh4, h4⟩ := h3
    refine q2_iald hs o_M_whoLives_24 rfl eh4 bh4 (by decide) ?_
    refine q_iload_n o_M_whoLives_25 rfl ?_
    have hJ : ∀ vJ : Int32, vJ = (if (q_I σ 175 k5) = p1 then l4 else l3) → q_At G X_M_whoLives (d + 1) 0 0 35 [some (.ref 159), some (.int p0), some (.int p1), some (.int l3), some (.int l4)] [.int vJ] σ Q := by
      intro vJ eJ
      rw [eJ]
      clear eJ vJ
      refine q2_istn (ls' := [some (.ref 159), some (.int p0), some (.int p1), some (.int (if (q_I σ 175 k5) = p1 then l4 else l3)), some (.int l4)]) o_M_whoLives_35 (Nat.le_of_ble_eq_true rfl) rfl ?_
      refine q2_inc (v := (l4 + 1)) (ls' := [some (.ref 159), some (.int p0), some (.int p1), some (.int (if (q_I σ 175 k5) = p1 then l4 else l3)), some (.int (l4 + 1))]) o_M_whoLives_36 rfl rfl (Nat.le_of_ble_eq_true rfl) rfl ?_
      refine q_goto o_M_whoLives_39 ?_
      exact h4
    refine q_icmp_ne o_M_whoLives_26 (fun c6 => ?_) (fun c6 => ?_)
    · refine q_iload_n o_M_whoLives_34 rfl ?_
      exact hJ _ (Eq.symm (if_neg c6))
    · refine q_iload o_M_whoLives_29 rfl ?_
      refine q_goto o_M_whoLives_31 ?_
      exact hJ _ (Eq.symm (if_pos c6))

set_option maxRecDepth 20000 in
theorem v_M_swapsTo_0 {G : q_G} {d : Nat} {σ : q_S} {Q : Option Value → q_S → Prop}   (hs : q_Sh σ) (h : q_At G X_M_swapsTo (d + 1) 0 0 4 [some (.ref 159), some (.int 0), some (.int 0), none, none, none, none] [] σ Q) : q_At G X_M_swapsTo (d + 1) 0 0 0 [some (.ref 159), none, none, none, none, none, none] [] σ Q := by
  refine q_iconst (v := 0) o_M_swapsTo_0 (by decide) ?_
  refine q2_istn (ls' := [some (.ref 159), some (.int 0), none, none, none, none, none]) o_M_swapsTo_1 (Nat.le_of_ble_eq_true rfl) rfl ?_
  refine q_iconst (v := 0) o_M_swapsTo_2 (by decide) ?_
  refine q2_istn (ls' := [some (.ref 159), some (.int 0), some (.int 0), none, none, none, none]) o_M_swapsTo_3 (Nat.le_of_ble_eq_true rfl) rfl ?_
  exact h

set_option maxRecDepth 20000 in
theorem v_M_swapsTo_4 {G : q_G} {d : Nat} {σ : q_S} {Q : Option Value → q_S → Prop} {l1 : Int32} {l2 : Int32}  (hs : q_Sh σ) (h : (((q_I σ 165 1) ≤ l2 → Q (some (.int l1)) σ) ∧ (¬ (q_I σ 165 1) ≤ l2 → (∃ k5, (1804 + l2) = nI k5 ∧ k5 < 1886 ∧ (∃ k7, (0 + l2) = nI k7 ∧ k7 < 1886 ∧ (∃ k10, (0 + l2) = nI k10 ∧ k10 < 1886 ∧ q_At G X_M_swapsTo (d + 1) 0 0 68 [some (.ref 159), some (.int (l1 + (if (q_I σ 175 k5) = (q_I σ 175 k7) then (0 : Int32) else (1 : Int32)))), some (.int l2), some (.int (q_I σ 175 k5)), some (.int l2), some (.int (if (q_I σ 175 k5) = (q_I σ 175 k10) then (0 : Int32) else (1 : Int32))), some (.int 0)] [] σ Q)))))) : q_At G X_M_swapsTo (d + 1) 0 0 4 [some (.ref 159), some (.int l1), some (.int l2), none, none, none, none] [] σ Q := by
  refine q_iload_n o_M_swapsTo_4 rfl ?_
  refine q_aload_n o_M_swapsTo_5 rfl ?_
  refine q2_M_families hs o_M_swapsTo_6 k_M_309 (Nat.le_of_ble_eq_true rfl) ?_
  refine q_icmp_ge o_M_swapsTo_9 (fun c1 => ?_) (fun c1 => ?_)
  · have h2 := h.1 c1
    refine q_iload_n o_M_swapsTo_149 rfl ?_
    exact q_ire o_M_swapsTo_150 rfl h2
  · have h3 := h.2 c1
    refine q_aload_n o_M_swapsTo_12 rfl ?_
    refine q2_getR hs o_M_swapsTo_13 f_M_133 rfl (fz_159_24 hs) ?_
    refine q_sipush (v := 1804) o_M_swapsTo_16 (by decide) ?_
    refine q_iload_n o_M_swapsTo_19 rfl ?_
    refine q_iadd o_M_swapsTo_20 ?_
    obtain ⟨k5, eh4, bh4, h4⟩ := h3
    refine q2_iald hs o_M_swapsTo_21 rfl eh4 bh4 (by decide) ?_
    refine q2_istn (ls' := [some (.ref 159), some (.int l1), some (.int l2), some (.int (q_I σ 175 k5)), none, none, none]) o_M_swapsTo_22 (Nat.le_of_ble_eq_true rfl) rfl ?_
    refine q_iload_n o_M_swapsTo_23 rfl ?_
    refine q_iload_n o_M_swapsTo_24 rfl ?_
    refine q_aload_n o_M_swapsTo_25 rfl ?_
    refine q2_getR hs o_M_swapsTo_26 f_M_133 rfl (fz_159_24 hs) ?_
    refine q_iconst (v := 0) o_M_swapsTo_29 (by decide) ?_
    refine q_iload_n o_M_swapsTo_30 rfl ?_
    refine q_iadd o_M_swapsTo_31 ?_
    obtain ⟨k7, eh6, bh6, h6⟩ := h4
    refine q2_iald hs o_M_swapsTo_32 rfl eh6 bh6 (by decide) ?_
    have hJ : ∀ vJ : Int32, vJ = (if (q_I σ 175 k5) = (q_I σ 175 k7) then (0 : Int32) else (1 : Int32)) → q_At G X_M_swapsTo (d + 1) 0 0 41 [some (.ref 159), some (.int l1), some (.int l2), some (.int (q_I σ 175 k5)), none, none, none] [.int vJ, .int l1] σ Q := by
      intro vJ eJ
      rw [eJ]
      clear eJ vJ
      refine q_iadd o_M_swapsTo_41 ?_
      refine q2_istn (ls' := [some (.ref 159), some (.int (l1 + (if (q_I σ 175 k5) = (q_I σ 175 k7) then (0 : Int32) else (1 : Int32)))), some (.int l2), some (.int (q_I σ 175 k5)), none, none, none]) o_M_swapsTo_42 (Nat.le_of_ble_eq_true rfl) rfl ?_
      refine q_iload_n o_M_swapsTo_43 rfl ?_
      refine q2_ist (ls' := [some (.ref 159), some (.int (l1 + (if (q_I σ 175 k5) = (q_I σ 175 k7) then (0 : Int32) else (1 : Int32)))), some (.int l2), some (.int (q_I σ 175 k5)), some (.int l2), none, none]) o_M_swapsTo_44 (Nat.le_of_ble_eq_true rfl) rfl ?_
      refine q_iload_n o_M_swapsTo_46 rfl ?_
      refine q_aload_n o_M_swapsTo_47 rfl ?_
      refine q2_getR hs o_M_swapsTo_48 f_M_133 rfl (fz_159_24 hs) ?_
      refine q_iconst (v := 0) o_M_swapsTo_51 (by decide) ?_
      refine q_iload_n o_M_swapsTo_52 rfl ?_
      refine q_iadd o_M_swapsTo_53 ?_
      obtain ⟨k10, eh9, bh9, h9⟩ := h6
      refine q2_iald hs o_M_swapsTo_54 rfl eh9 bh9 (by decide) ?_
      have hJ : ∀ vJ : Int32, vJ = (if (q_I σ 175 k5) = (q_I σ 175 k10) then (0 : Int32) else (1 : Int32)) → q_At G X_M_swapsTo (d + 1) 0 0 63 [some (.ref 159), some (.int (l1 + (if (q_I σ 175 k5) = (q_I σ 175 k7) then (0 : Int32) else (1 : Int32)))), some (.int l2), some (.int (q_I σ 175 k5)), some (.int l2), none, none] [.int vJ] σ Q := by
        intro vJ eJ
        rw [eJ]
        clear eJ vJ
        refine q2_ist (ls' := [some (.ref 159), some (.int (l1 + (if (q_I σ 175 k5) = (q_I σ 175 k7) then (0 : Int32) else (1 : Int32)))), some (.int l2), some (.int (q_I σ 175 k5)), some (.int l2), some (.int (if (q_I σ 175 k5) = (q_I σ 175 k10) then (0 : Int32) else (1 : Int32))), none]) o_M_swapsTo_63 (Nat.le_of_ble_eq_true rfl) rfl ?_
        refine q_iconst (v := 0) o_M_swapsTo_65 (by decide) ?_
        refine q2_ist (ls' := [some (.ref 159), some (.int (l1 + (if (q_I σ 175 k5) = (q_I σ 175 k7) then (0 : Int32) else (1 : Int32)))), some (.int l2), some (.int (q_I σ 175 k5)), some (.int l2), some (.int (if (q_I σ 175 k5) = (q_I σ 175 k10) then (0 : Int32) else (1 : Int32))), some (.int 0)]) o_M_swapsTo_66 (Nat.le_of_ble_eq_true rfl) rfl ?_
        exact h9
      refine q_icmp_eq o_M_swapsTo_55 (fun c11 => ?_) (fun c11 => ?_)
      · refine q_iconst (v := 0) o_M_swapsTo_62 (by decide) ?_
        exact hJ _ (Eq.symm (if_pos c11))
      · refine q_iconst (v := 1) o_M_swapsTo_58 (by decide) ?_
        refine q_goto o_M_swapsTo_59 ?_
        exact hJ _ (Eq.symm (if_neg c11))
    refine q_icmp_eq o_M_swapsTo_33 (fun c8 => ?_) (fun c8 => ?_)
    · refine q_iconst (v := 0) o_M_swapsTo_40 (by decide) ?_
      exact hJ _ (Eq.symm (if_pos c8))
    · refine q_iconst (v := 1) o_M_swapsTo_36 (by decide) ?_
      refine q_goto o_M_swapsTo_37 ?_
      exact hJ _ (Eq.symm (if_neg c8))

set_option maxRecDepth 20000 in
theorem v_M_swapsTo_68 {G : q_G} {d : Nat} {σ : q_S} {Q : Option Value → q_S → Prop} {l1 : Int32} {l2 : Int32} {l3 : Int32} {l4 : Int32} {l5 : Int32} {l6 : Int32}  (hs : q_Sh σ) (h : ((6 ≤ l6 → ((¬ l4 = l2 → q_At G X_M_swapsTo (d + 1) 0 0 4 [some (.ref 159), some (.int (l1 - 0)), some (.int (l2 + 1)), none, none, none, none] [] σ Q) ∧ (l4 = l2 → (∃ k7, (0 + l2) = nI k7 ∧ k7 < 1886 ∧ q_At G X_M_swapsTo (d + 1) 0 0 4 [some (.ref 159), some (.int (l1 - (if l3 = (q_I σ 175 k7) then (0 : Int32) else (1 : Int32)))), some (.int (l2 + 1)), none, none, none, none] [] σ Q)))) ∧ (¬ 6 ≤ l6 → ((l5 = 0 → ((¬ l4 = l2 → q_At G X_M_swapsTo (d + 1) 0 0 4 [some (.ref 159), some (.int (l1 - 0)), some (.int (l2 + 1)), none, none, none, none] [] σ Q) ∧ (l4 = l2 → (∃ k16, (0 + l2) = nI k16 ∧ k16 < 1886 ∧ q_At G X_M_swapsTo (d + 1) 0 0 4 [some (.ref 159), some (.int (l1 - (if l3 = (q_I σ 175 k16) then (0 : Int32) else (1 : Int32)))), some (.int (l2 + 1)), none, none, none, none] [] σ Q)))) ∧ (¬ l5 = 0 → (∃ k20, (1804 + l4) = nI k20 ∧ k20 < 1886 ∧ q_Call G d 0 0 X_M_whoLives [.ref 159, .int 0, .int (q_I σ 175 k20)] σ (q_ri (fun x24 σ22 => q_At G X_M_swapsTo (d + 1) 0 0 68 [some (.ref 159), some (.int l1), some (.int l2), some (.int l3), some (.int x24), some (.int (if x24 ≤ l2 then (0 : Int32) else (1 : Int32))), some (.int (l6 + 1))] [] σ22 Q)))))))) : q_At G X_M_swapsTo (d + 1) 0 0 68 [some (.ref 159), some (.int l1), some (.int l2), some (.int l3), some (.int l4), some (.int l5), some (.int l6)] [] σ Q := by
  refine q_iload o_M_swapsTo_68 rfl ?_
  refine q_bipush (v := 6) o_M_swapsTo_70 (by decide) ?_
  refine q_icmp_ge o_M_swapsTo_72 (fun c1 => ?_) (fun c1 => ?_)
  · have h2 := h.1 c1
    refine q_iload_n o_M_swapsTo_117 rfl ?_
    refine q_iload o_M_swapsTo_118 rfl ?_
    refine q_iload_n o_M_swapsTo_120 rfl ?_
    refine q_icmp_ne o_M_swapsTo_121 (fun c3 => ?_) (fun c3 => ?_)
    · have h4 := h2.1 c3
      refine q_iconst (v := 0) o_M_swapsTo_140 (by decide) ?_
      refine q_isub o_M_swapsTo_141 ?_
      refine q2_istn (ls' := [some (.ref 159), some (.int (l1 - 0)), some (.int l2), some (.int l3), some (.int l4), some (.int l5), some (.int l6)]) o_M_swapsTo_142 (Nat.le_of_ble_eq_true rfl) rfl ?_
      refine q2_inc (v := (l2 + 1)) (ls' := [some (.ref 159), some (.int (l1 - 0)), some (.int (l2 + 1)), some (.int l3), some (.int l4), some (.int l5), some (.int l6)]) o_M_swapsTo_143 rfl rfl (Nat.le_of_ble_eq_true rfl) rfl ?_
      refine q_goto o_M_swapsTo_146 ?_
      exact q_weak (ls' := [some (.ref 159), some (.int (l1 - 0)), some (.int (l2 + 1)), none, none, none, none]) (And.intro rfl (And.intro rfl (And.intro rfl trivial))) h4
    · have h5 := h2.2 c3
      refine q_iload_n o_M_swapsTo_124 rfl ?_
      refine q_aload_n o_M_swapsTo_125 rfl ?_
      refine q2_getR hs o_M_swapsTo_126 f_M_133 rfl (fz_159_24 hs) ?_
      refine q_iconst (v := 0) o_M_swapsTo_129 (by decide) ?_
      refine q_iload_n o_M_swapsTo_130 rfl ?_
      refine q_iadd o_M_swapsTo_131 ?_
      obtain ⟨k7, eh6, bh6, h6⟩ := h5
      refine q2_iald hs o_M_swapsTo_132 rfl eh6 bh6 (by decide) ?_
      have hJ : ∀ vJ : Int32, vJ = (if l3 = (q_I σ 175 k7) then (0 : Int32) else (1 : Int32)) → q_At G X_M_swapsTo (d + 1) 0 0 141 [some (.ref 159), some (.int l1), some (.int l2), some (.int l3), some (.int l4), some (.int l5), some (.int l6)] [.int vJ, .int l1] σ Q := by
        intro vJ eJ
        rw [eJ]
        clear eJ vJ
        refine q_isub o_M_swapsTo_141 ?_
        refine q2_istn (ls' := [some (.ref 159), some (.int (l1 - (if l3 = (q_I σ 175 k7) then (0 : Int32) else (1 : Int32)))), some (.int l2), some (.int l3), some (.int l4), some (.int l5), some (.int l6)]) o_M_swapsTo_142 (Nat.le_of_ble_eq_true rfl) rfl ?_
        refine q2_inc (v := (l2 + 1)) (ls' := [some (.ref 159), some (.int (l1 - (if l3 = (q_I σ 175 k7) then (0 : Int32) else (1 : Int32)))), some (.int (l2 + 1)), some (.int l3), some (.int l4), some (.int l5), some (.int l6)]) o_M_swapsTo_143 rfl rfl (Nat.le_of_ble_eq_true rfl) rfl ?_
        refine q_goto o_M_swapsTo_146 ?_
        exact q_weak (ls' := [some (.ref 159), some (.int (l1 - (if l3 = (q_I σ 175 k7) then (0 : Int32) else (1 : Int32)))), some (.int (l2 + 1)), none, none, none, none]) (And.intro rfl (And.intro rfl (And.intro rfl trivial))) h6
      refine q_icmp_eq o_M_swapsTo_133 (fun c8 => ?_) (fun c8 => ?_)
      · refine q_iconst (v := 0) o_M_swapsTo_140 (by decide) ?_
        exact hJ _ (Eq.symm (if_pos c8))
      · refine q_iconst (v := 1) o_M_swapsTo_136 (by decide) ?_
        refine q_goto o_M_swapsTo_137 ?_
        exact hJ _ (Eq.symm (if_neg c8))
  · have h9 := h.2 c1
    refine q_iload o_M_swapsTo_75 rfl ?_
    refine q_if_eq o_M_swapsTo_77 (fun c10 => ?_) (fun c10 => ?_)
    · have h11 := h9.1 c10
      refine q_iload_n o_M_swapsTo_117 rfl ?_
      refine q_iload o_M_swapsTo_118 rfl ?_
      refine q_iload_n o_M_swapsTo_120 rfl ?_
      refine q_icmp_ne o_M_swapsTo_121 (fun c12 => ?_) (fun c12 => ?_)
      · have h13 := h11.1 c12
        refine q_iconst (v := 0) o_M_swapsTo_140 (by decide) ?_
        refine q_isub o_M_swapsTo_141 ?_
        refine q2_istn (ls' := [some (.ref 159), some (.int (l1 - 0)), some (.int l2), some (.int l3), some (.int l4), some (.int l5), some (.int l6)]) o_M_swapsTo_142 (Nat.le_of_ble_eq_true rfl) rfl ?_
        refine q2_inc (v := (l2 + 1)) (ls' := [some (.ref 159), some (.int (l1 - 0)), some (.int (l2 + 1)), some (.int l3), some (.int l4), some (.int l5), some (.int l6)]) o_M_swapsTo_143 rfl rfl (Nat.le_of_ble_eq_true rfl) rfl ?_
        refine q_goto o_M_swapsTo_146 ?_
        exact q_weak (ls' := [some (.ref 159), some (.int (l1 - 0)), some (.int (l2 + 1)), none, none, none, none]) (And.intro rfl (And.intro rfl (And.intro rfl trivial))) h13
      · have h14 := h11.2 c12
        refine q_iload_n o_M_swapsTo_124 rfl ?_
        refine q_aload_n o_M_swapsTo_125 rfl ?_
        refine q2_getR hs o_M_swapsTo_126 f_M_133 rfl (fz_159_24 hs) ?_
        refine q_iconst (v := 0) o_M_swapsTo_129 (by decide) ?_
        refine q_iload_n o_M_swapsTo_130 rfl ?_
        refine q_iadd o_M_swapsTo_131 ?_
        obtain ⟨k16, eh15, bh15, h15⟩ := h14
        refine q2_iald hs o_M_swapsTo_132 rfl eh15 bh15 (by decide) ?_
        have hJ : ∀ vJ : Int32, vJ = (if l3 = (q_I σ 175 k16) then (0 : Int32) else (1 : Int32)) → q_At G X_M_swapsTo (d + 1) 0 0 141 [some (.ref 159), some (.int l1), some (.int l2), some (.int l3), some (.int l4), some (.int l5), some (.int l6)] [.int vJ, .int l1] σ Q := by
          intro vJ eJ
          rw [eJ]
          clear eJ vJ
          refine q_isub o_M_swapsTo_141 ?_
          refine q2_istn (ls' := [some (.ref 159), some (.int (l1 - (if l3 = (q_I σ 175 k16) then (0 : Int32) else (1 : Int32)))), some (.int l2), some (.int l3), some (.int l4), some (.int l5), some (.int l6)]) o_M_swapsTo_142 (Nat.le_of_ble_eq_true rfl) rfl ?_
          refine q2_inc (v := (l2 + 1)) (ls' := [some (.ref 159), some (.int (l1 - (if l3 = (q_I σ 175 k16) then (0 : Int32) else (1 : Int32)))), some (.int (l2 + 1)), some (.int l3), some (.int l4), some (.int l5), some (.int l6)]) o_M_swapsTo_143 rfl rfl (Nat.le_of_ble_eq_true rfl) rfl ?_
          refine q_goto o_M_swapsTo_146 ?_
          exact q_weak (ls' := [some (.ref 159), some (.int (l1 - (if l3 = (q_I σ 175 k16) then (0 : Int32) else (1 : Int32)))), some (.int (l2 + 1)), none, none, none, none]) (And.intro rfl (And.intro rfl (And.intro rfl trivial))) h15
        refine q_icmp_eq o_M_swapsTo_133 (fun c17 => ?_) (fun c17 => ?_)
        · refine q_iconst (v := 0) o_M_swapsTo_140 (by decide) ?_
          exact hJ _ (Eq.symm (if_pos c17))
        · refine q_iconst (v := 1) o_M_swapsTo_136 (by decide) ?_
          refine q_goto o_M_swapsTo_137 ?_
          exact hJ _ (Eq.symm (if_neg c17))
    · have h18 := h9.2 c10
      refine q_aload_n o_M_swapsTo_80 rfl ?_
      refine q_iconst (v := 0) o_M_swapsTo_81 (by decide) ?_
      refine q_aload_n o_M_swapsTo_82 rfl ?_
      refine q2_getR hs o_M_swapsTo_83 f_M_133 rfl (fz_159_24 hs) ?_
      refine q_sipush (v := 1804) o_M_swapsTo_86 (by decide) ?_
      refine q_iload o_M_swapsTo_89 rfl ?_
      refine q_iadd o_M_swapsTo_91 ?_
      obtain ⟨k20, eh19, bh19, h19⟩ := h18
      refine q2_iald hs o_M_swapsTo_92 rfl eh19 bh19 (by decide) ?_
      refine q2_callVi _ (a := 159) (As := [.int 0, .int (q_I σ 175 k20)]) (st := []) hs o_M_swapsTo_93 k_M_435 rfl rfl (Nat.le_of_ble_eq_true rfl) h19 (fun x24 σ22 hs23 h21 => ?_)
      refine q2_ist (ls' := [some (.ref 159), some (.int l1), some (.int l2), some (.int l3), some (.int x24), some (.int l5), some (.int l6)]) o_M_swapsTo_96 (Nat.le_of_ble_eq_true rfl) rfl ?_
      refine q_iload o_M_swapsTo_98 rfl ?_
      refine q_iload_n o_M_swapsTo_100 rfl ?_
      have hJ : ∀ vJ : Int32, vJ = (if x24 ≤ l2 then (0 : Int32) else (1 : Int32)) → q_At G X_M_swapsTo (d + 1) 0 0 109 [some (.ref 159), some (.int l1), some (.int l2), some (.int l3), some (.int x24), some (.int l5), some (.int l6)] [.int vJ] σ22 Q := by
        intro vJ eJ
        rw [eJ]
        clear eJ vJ
        refine q2_ist (ls' := [some (.ref 159), some (.int l1), some (.int l2), some (.int l3), some (.int x24), some (.int (if x24 ≤ l2 then (0 : Int32) else (1 : Int32))), some (.int l6)]) o_M_swapsTo_109 (Nat.le_of_ble_eq_true rfl) rfl ?_
        refine q2_inc (v := (l6 + 1)) (ls' := [some (.ref 159), some (.int l1), some (.int l2), some (.int l3), some (.int x24), some (.int (if x24 ≤ l2 then (0 : Int32) else (1 : Int32))), some (.int (l6 + 1))]) o_M_swapsTo_111 rfl rfl (Nat.le_of_ble_eq_true rfl) rfl ?_
        refine q_goto o_M_swapsTo_114 ?_
        exact h21
      refine q_icmp_le o_M_swapsTo_101 (fun c25 => ?_) (fun c25 => ?_)
      · refine q_iconst (v := 0) o_M_swapsTo_108 (by decide) ?_
        exact hJ _ (Eq.symm (if_pos c25))
      · refine q_iconst (v := 1) o_M_swapsTo_104 (by decide) ?_
        refine q_goto o_M_swapsTo_105 ?_
        exact hJ _ (Eq.symm (if_neg c25))

set_option maxRecDepth 20000 in
theorem v_M_takesWay_0 {G : q_G} {d : Nat} {σ : q_S} {Q : Option Value → q_S → Prop} {p0 : Int32} {p1 : Int32}  (hs : q_Sh σ) (h : q_At G X_M_takesWay (d + 1) 0 0 12 [some (.ref 159), some (.int p0), some (.int p1), some (.int 0)] [] (q_setI (q_setI σ 159 33 p0) 159 34 p1) Q) : q_At G X_M_takesWay (d + 1) 0 0 0 [some (.ref 159), some (.int p0), some (.int p1), none] [] σ Q := by
  refine q_aload_n o_M_takesWay_0 rfl ?_
  refine q_iload_n o_M_takesWay_1 rfl ?_
  refine q2_putI hs o_M_takesWay_2 fp_M_438 rfl rfl rfl ?_
  refine q_aload_n o_M_takesWay_5 rfl ?_
  refine q_iload_n o_M_takesWay_6 rfl ?_
  refine q2_putI hs o_M_takesWay_7 fp_M_441 rfl rfl rfl ?_
  refine q_iconst (v := 0) o_M_takesWay_10 (by decide) ?_
  refine q2_istn (ls' := [some (.ref 159), some (.int p0), some (.int p1), some (.int 0)]) o_M_takesWay_11 (Nat.le_of_ble_eq_true rfl) rfl ?_
  exact h

set_option maxRecDepth 20000 in
theorem v_M_takesWay_12 {G : q_G} {d : Nat} {σ : q_S} {Q : Option Value → q_S → Prop} {p0 : Int32} {p1 : Int32} {l3 : Int32}  (hs : q_Sh σ) (h : (((q_I σ 165 1) ≤ l3 → Q none σ) ∧ (¬ (q_I σ 165 1) ≤ l3 → (∃ k5, (1804 + l3) = nI k5 ∧ k5 < 1886 ∧ (∃ k7, l3 = nI k7 ∧ k7 < 6 ∧ q_At G X_M_takesWay (d + 1) 0 0 12 [some (.ref 159), some (.int p0), some (.int p1), some (.int (l3 + 1))] [] (q_setI σ 180 k7 (q_I σ 175 k5)) Q))))) : q_At G X_M_takesWay (d + 1) 0 0 12 [some (.ref 159), some (.int p0), some (.int p1), some (.int l3)] [] σ Q := by
  refine q_iload_n o_M_takesWay_12 rfl ?_
  refine q_aload_n o_M_takesWay_13 rfl ?_
  refine q2_M_families hs o_M_takesWay_14 k_M_309 (Nat.le_of_ble_eq_true rfl) ?_
  refine q_icmp_ge o_M_takesWay_17 (fun c1 => ?_) (fun c1 => ?_)
  · have h2 := h.1 c1
    exact q_vre o_M_takesWay_42 rfl h2
  · have h3 := h.2 c1
    refine q_aload_n o_M_takesWay_20 rfl ?_
    refine q2_getR hs o_M_takesWay_21 f_M_149 rfl (fz_159_32 hs) ?_
    refine q_iload_n o_M_takesWay_24 rfl ?_
    refine q_aload_n o_M_takesWay_25 rfl ?_
    refine q2_getR hs o_M_takesWay_26 f_M_133 rfl (fz_159_24 hs) ?_
    refine q_sipush (v := 1804) o_M_takesWay_29 (by decide) ?_
    refine q_iload_n o_M_takesWay_32 rfl ?_
    refine q_iadd o_M_takesWay_33 ?_
    obtain ⟨k5, eh4, bh4, h4⟩ := h3
    refine q2_iald hs o_M_takesWay_34 rfl eh4 bh4 (by decide) ?_
    obtain ⟨k7, eh6, bh6, h6⟩ := h4
    refine q2_iast hs o_M_takesWay_35 rfl eh6 bh6 (by decide) ?_
    refine q2_inc (v := (l3 + 1)) (ls' := [some (.ref 159), some (.int p0), some (.int p1), some (.int (l3 + 1))]) o_M_takesWay_36 rfl rfl (Nat.le_of_ble_eq_true rfl) rfl ?_
    refine q_goto o_M_takesWay_39 ?_
    exact h6

set_option maxRecDepth 20000 in
theorem v_M_mend_0 {G : q_G} {d : Nat} {σ : q_S} {Q : Option Value → q_S → Prop} {p0 : Int32}  (hs : q_Sh σ) (h : ((p0 = (-1) → q_Call G d 0 0 X_M_findWays [.ref 159] (q_setI σ 159 0 0) (q_rv (fun σ4 => q_At G X_M_mend (d + 1) 0 0 32 [some (.ref 159), some (.int p0), some (.int 0), none] [] (q_setI σ4 159 33 (-1)) Q))) ∧ (¬ p0 = (-1) → q_Call G d 0 0 X_M_isFamily [.ref 159, .int p0] (q_setI σ 159 0 0) (q_ri (fun x10 σ8 => ((¬ x10 = 0 → q_Call G d 0 0 X_M_findWays [.ref 159] σ8 (q_rv (fun σ14 => q_At G X_M_mend (d + 1) 0 0 32 [some (.ref 159), some (.int p0), some (.int 0), none] [] (q_setI σ14 159 33 (-1)) Q))) ∧ (x10 = 0 → Q (some (.int (-2))) σ8))))))) : q_At G X_M_mend (d + 1) 0 0 0 [some (.ref 159), some (.int p0), none, none] [] σ Q := by
  refine q_aload_n o_M_mend_0 rfl ?_
  refine q_iconst (v := 0) o_M_mend_1 (by decide) ?_
  refine q2_putI hs o_M_mend_2 fp_M_1 rfl rfl rfl ?_
  refine q_iload_n o_M_mend_5 rfl ?_
  refine q_iconst (v := (-1)) o_M_mend_6 (by decide) ?_
  refine q_icmp_eq o_M_mend_7 (fun c1 => ?_) (fun c1 => ?_)
  · have h2 := h.1 c1
    refine q_aload_n o_M_mend_21 rfl ?_
    refine q2_callVv _ (a := 159) (As := []) (st := []) hs o_M_mend_22 k_M_425 rfl rfl (Nat.le_of_ble_eq_true rfl) h2 (fun σ4 hs5 h3 => ?_)
    refine q_aload_n o_M_mend_25 rfl ?_
    refine q_iconst (v := (-1)) o_M_mend_26 (by decide) ?_
    refine q2_putI hs5 o_M_mend_27 fp_M_438 rfl rfl rfl ?_
    refine q_iconst (v := 0) o_M_mend_30 (by decide) ?_
    refine q2_istn (ls' := [some (.ref 159), some (.int p0), some (.int 0), none]) o_M_mend_31 (Nat.le_of_ble_eq_true rfl) rfl ?_
    exact h3
  · have h6 := h.2 c1
    refine q_aload_n o_M_mend_10 rfl ?_
    refine q_iload_n o_M_mend_11 rfl ?_
    refine q2_callVi _ (a := 159) (As := [.int p0]) (st := []) hs o_M_mend_12 k_M_332 rfl rfl (Nat.le_of_ble_eq_true rfl) h6 (fun x10 σ8 hs9 h7 => ?_)
    refine q_if_ne o_M_mend_15 (fun c11 => ?_) (fun c11 => ?_)
    · have h12 := h7.1 c11
      refine q_aload_n o_M_mend_21 rfl ?_
      refine q2_callVv _ (a := 159) (As := []) (st := []) hs9 o_M_mend_22 k_M_425 rfl rfl (Nat.le_of_ble_eq_true rfl) h12 (fun σ14 hs15 h13 => ?_)
      refine q_aload_n o_M_mend_25 rfl ?_
      refine q_iconst (v := (-1)) o_M_mend_26 (by decide) ?_
      refine q2_putI hs15 o_M_mend_27 fp_M_438 rfl rfl rfl ?_
      refine q_iconst (v := 0) o_M_mend_30 (by decide) ?_
      refine q2_istn (ls' := [some (.ref 159), some (.int p0), some (.int 0), none]) o_M_mend_31 (Nat.le_of_ble_eq_true rfl) rfl ?_
      exact h13
    · have h16 := h7.2 c11
      refine q_bipush (v := (-2)) o_M_mend_18 (by decide) ?_
      exact q_ire o_M_mend_20 rfl h16

set_option maxRecDepth 20000 in
theorem v_M_mend_32 {G : q_G} {d : Nat} {σ : q_S} {Q : Option Value → q_S → Prop} {p0 : Int32} {l2 : Int32}  (hs : q_Sh σ) (h : (((q_I σ 159 31) ≤ l2 → ((0 ≤ (q_I σ 159 33) → ((0 ≤ p0 → (∃ k8, p0 = nI k8 ∧ k8 < 6 ∧ Q (some (.int (q_I σ 180 k8))) σ)) ∧ (¬ 0 ≤ p0 → Q (some (.int (q_I σ 159 33))) σ))) ∧ (¬ 0 ≤ (q_I σ 159 33) → Q (some (.int (-2))) σ))) ∧ (¬ (q_I σ 159 31) ≤ l2 → q_Call G d 0 0 X_M_laysWay [.ref 159, .int l2] σ (q_rv (fun σ13 => q_Call G d 0 0 X_M_brokenBy [.ref 159, .int 1804] σ13 (q_ri (fun x18 σ16 => ((¬ x18 = 0 → q_At G X_M_mend (d + 1) 0 0 32 [some (.ref 159), some (.int p0), some (.int (l2 + 1)), none] [] σ16 Q) ∧ (x18 = 0 → q_Call G d 0 0 X_M_swapsTo [.ref 159] σ16 (q_ri (fun x26 σ24 => ((x26 < 0 → q_At G X_M_mend (d + 1) 0 0 32 [some (.ref 159), some (.int p0), some (.int (l2 + 1)), none] [] σ24 Q) ∧ (¬ x26 < 0 → (((q_I σ24 159 33) < 0 → q_Call G d 0 0 X_M_takesWay [.ref 159, .int x26, .int x26] σ24 (q_rv (fun σ33 => q_At G X_M_mend (d + 1) 0 0 32 [some (.ref 159), some (.int p0), some (.int (l2 + 1)), none] [] σ33 Q))) ∧ (¬ (q_I σ24 159 33) < 0 → (((q_I σ24 159 33) ≤ x26 → q_At G X_M_mend (d + 1) 0 0 32 [some (.ref 159), some (.int p0), some (.int (l2 + 1)), none] [] σ24 Q) ∧ (¬ (q_I σ24 159 33) ≤ x26 → q_Call G d 0 0 X_M_takesWay [.ref 159, .int x26, .int x26] σ24 (q_rv (fun σ40 => q_At G X_M_mend (d + 1) 0 0 32 [some (.ref 159), some (.int p0), some (.int (l2 + 1)), none] [] σ40 Q))))))))))))))))))) : q_At G X_M_mend (d + 1) 0 0 32 [some (.ref 159), some (.int p0), some (.int l2), none] [] σ Q := by
  refine q_iload_n o_M_mend_32 rfl ?_
  refine q_aload_n o_M_mend_33 rfl ?_
  refine q2_getI hs o_M_mend_34 f_M_416 rfl ?_
  refine q_icmp_ge o_M_mend_37 (fun c1 => ?_) (fun c1 => ?_)
  · have h2 := h.1 c1
    refine q_aload_n o_M_mend_95 rfl ?_
    refine q2_getI hs o_M_mend_96 f_M_438 rfl ?_
    refine q_if_ge o_M_mend_99 (fun c3 => ?_) (fun c3 => ?_)
    · have h4 := h2.1 c3
      refine q_iload_n o_M_mend_107 rfl ?_
      refine q_if_ge o_M_mend_108 (fun c5 => ?_) (fun c5 => ?_)
      · have h6 := h4.1 c5
        refine q_aload_n o_M_mend_118 rfl ?_
        refine q2_getR hs o_M_mend_119 f_M_149 rfl (fz_159_32 hs) ?_
        refine q_iload_n o_M_mend_122 rfl ?_
        obtain ⟨k8, eh7, bh7, h7⟩ := h6
        refine q2_iald hs o_M_mend_123 rfl eh7 bh7 (by decide) ?_
        exact q_ire o_M_mend_124 rfl h7
      · have h9 := h4.2 c5
        refine q_aload_n o_M_mend_111 rfl ?_
        refine q2_getI hs o_M_mend_112 f_M_438 rfl ?_
        refine q_goto o_M_mend_115 ?_
        exact q_ire o_M_mend_124 rfl h9
    · have h10 := h2.2 c3
      refine q_bipush (v := (-2)) o_M_mend_102 (by decide) ?_
      refine q_goto o_M_mend_104 ?_
      exact q_ire o_M_mend_124 rfl h10
  · have h11 := h.2 c1
    refine q_aload_n o_M_mend_40 rfl ?_
    refine q_iload_n o_M_mend_41 rfl ?_
    refine q2_callVv _ (a := 159) (As := [.int l2]) (st := []) hs o_M_mend_42 k_M_422 rfl rfl (Nat.le_of_ble_eq_true rfl) h11 (fun σ13 hs14 h12 => ?_)
    refine q_aload_n o_M_mend_45 rfl ?_
    refine q_sipush (v := 1804) o_M_mend_46 (by decide) ?_
    refine q2_callVi _ (a := 159) (As := [.int 1804]) (st := []) hs14 o_M_mend_49 k_M_413 rfl rfl (Nat.le_of_ble_eq_true rfl) h12 (fun x18 σ16 hs17 h15 => ?_)
    refine q_if_ne o_M_mend_52 (fun c19 => ?_) (fun c19 => ?_)
    · have h20 := h15.1 c19
      refine q_iconst (v := (-1)) o_M_mend_62 (by decide) ?_
      refine q2_istn (ls' := [some (.ref 159), some (.int p0), some (.int l2), some (.int (-1))]) o_M_mend_63 (Nat.le_of_ble_eq_true rfl) rfl ?_
      refine q_iload_n o_M_mend_64 rfl ?_
      refine q_if_lt o_M_mend_65 (fun _ => ?_) (fun c21 => absurd c21 (by decide))
      refine q2_inc (v := (l2 + 1)) (ls' := [some (.ref 159), some (.int p0), some (.int (l2 + 1)), some (.int (-1))]) o_M_mend_89 rfl rfl (Nat.le_of_ble_eq_true rfl) rfl ?_
      refine q_goto o_M_mend_92 ?_
      exact q_weak (ls' := [some (.ref 159), some (.int p0), some (.int (l2 + 1)), none]) (And.intro rfl (And.intro rfl (And.intro rfl trivial))) h20
    · have h22 := h15.2 c19
      refine q_aload_n o_M_mend_55 rfl ?_
      refine q2_callVi _ (a := 159) (As := []) (st := []) hs17 o_M_mend_56 k_M_444 rfl rfl (Nat.le_of_ble_eq_true rfl) h22 (fun x26 σ24 hs25 h23 => ?_)
      refine q_goto o_M_mend_59 ?_
      refine q2_istn (ls' := [some (.ref 159), some (.int p0), some (.int l2), some (.int x26)]) o_M_mend_63 (Nat.le_of_ble_eq_true rfl) rfl ?_
      refine q_iload_n o_M_mend_64 rfl ?_
      refine q_if_lt o_M_mend_65 (fun c27 => ?_) (fun c27 => ?_)
      · have h28 := h23.1 c27
        refine q2_inc (v := (l2 + 1)) (ls' := [some (.ref 159), some (.int p0), some (.int (l2 + 1)), some (.int x26)]) o_M_mend_89 rfl rfl (Nat.le_of_ble_eq_true rfl) rfl ?_
        refine q_goto o_M_mend_92 ?_
        exact q_weak (ls' := [some (.ref 159), some (.int p0), some (.int (l2 + 1)), none]) (And.intro rfl (And.intro rfl (And.intro rfl trivial))) h28
      · have h29 := h23.2 c27
        refine q_aload_n o_M_mend_68 rfl ?_
        refine q2_getI hs25 o_M_mend_69 f_M_438 rfl ?_
        refine q_if_lt o_M_mend_72 (fun c30 => ?_) (fun c30 => ?_)
        · have h31 := h29.1 c30
          refine q_aload_n o_M_mend_83 rfl ?_
          refine q_iload_n o_M_mend_84 rfl ?_
          refine q_iload_n o_M_mend_85 rfl ?_
          refine q2_callVv _ (a := 159) (As := [.int x26, .int x26]) (st := []) hs25 o_M_mend_86 k_M_447 rfl rfl (Nat.le_of_ble_eq_true rfl) h31 (fun σ33 hs34 h32 => ?_)
          refine q2_inc (v := (l2 + 1)) (ls' := [some (.ref 159), some (.int p0), some (.int (l2 + 1)), some (.int x26)]) o_M_mend_89 rfl rfl (Nat.le_of_ble_eq_true rfl) rfl ?_
          refine q_goto o_M_mend_92 ?_
          exact q_weak (ls' := [some (.ref 159), some (.int p0), some (.int (l2 + 1)), none]) (And.intro rfl (And.intro rfl (And.intro rfl trivial))) h32
        · have h35 := h29.2 c30
          refine q_iload_n o_M_mend_75 rfl ?_
          refine q_aload_n o_M_mend_76 rfl ?_
          refine q2_getI hs25 o_M_mend_77 f_M_438 rfl ?_
          refine q_icmp_ge o_M_mend_80 (fun c36 => ?_) (fun c36 => ?_)
          · have h37 := h35.1 c36
            refine q2_inc (v := (l2 + 1)) (ls' := [some (.ref 159), some (.int p0), some (.int (l2 + 1)), some (.int x26)]) o_M_mend_89 rfl rfl (Nat.le_of_ble_eq_true rfl) rfl ?_
            refine q_goto o_M_mend_92 ?_
            exact q_weak (ls' := [some (.ref 159), some (.int p0), some (.int (l2 + 1)), none]) (And.intro rfl (And.intro rfl (And.intro rfl trivial))) h37
          · have h38 := h35.2 c36
            refine q_aload_n o_M_mend_83 rfl ?_
            refine q_iload_n o_M_mend_84 rfl ?_
            refine q_iload_n o_M_mend_85 rfl ?_
            refine q2_callVv _ (a := 159) (As := [.int x26, .int x26]) (st := []) hs25 o_M_mend_86 k_M_447 rfl rfl (Nat.le_of_ble_eq_true rfl) h38 (fun σ40 hs41 h39 => ?_)
            refine q2_inc (v := (l2 + 1)) (ls' := [some (.ref 159), some (.int p0), some (.int (l2 + 1)), some (.int x26)]) o_M_mend_89 rfl rfl (Nat.le_of_ble_eq_true rfl) rfl ?_
            refine q_goto o_M_mend_92 ?_
            exact q_weak (ls' := [some (.ref 159), some (.int p0), some (.int (l2 + 1)), none]) (And.intro rfl (And.intro rfl (And.intro rfl trivial))) h39

set_option maxRecDepth 20000 in
theorem v_M_please_0 {G : q_G} {d : Nat} {σ : q_S} {Q : Option Value → q_S → Prop} {p0 : Int32}  (hs : q_Sh σ) (h : q_Call G d 0 0 X_M_within [.int p0, .int 0, .int (1 + (q_I (q_setI σ 159 0 0) 165 1))] (q_setI σ 159 0 0) (q_ri (fun x4 σ2 => ((¬ x4 = 0 → q_Call G d 0 0 X_M_findWays [.ref 159] σ2 (q_rv (fun σ8 => q_At G X_M_please (d + 1) 0 0 32 [some (.ref 159), some (.int p0), some (.int 0), none, none] [] (q_setI σ8 159 33 (-1)) Q))) ∧ (x4 = 0 → Q (some (.int (-1))) σ2))))) : q_At G X_M_please (d + 1) 0 0 0 [some (.ref 159), some (.int p0), none, none, none] [] σ Q := by
  refine q_aload_n o_M_please_0 rfl ?_
  refine q_iconst (v := 0) o_M_please_1 (by decide) ?_
  refine q2_putI hs o_M_please_2 fp_M_1 rfl rfl rfl ?_
  refine q_iload_n o_M_please_5 rfl ?_
  refine q_iconst (v := 0) o_M_please_6 (by decide) ?_
  refine q_iconst (v := 1) o_M_please_7 (by decide) ?_
  refine q_aload_n o_M_please_8 rfl ?_
  refine q2_M_families hs o_M_please_9 k_M_309 (Nat.le_of_ble_eq_true rfl) ?_
  refine q_iadd o_M_please_12 ?_
  refine q2_callSi _ (As := [.int p0, .int 0, .int (1 + (q_I (q_setI σ 159 0 0) 165 1))]) (st := []) hs o_M_please_13 k_M_227 rfl (Nat.le_of_ble_eq_true rfl) h (fun x4 σ2 hs3 h1 => ?_)
  refine q_if_ne o_M_please_16 (fun c5 => ?_) (fun c5 => ?_)
  · have h6 := h1.1 c5
    refine q_aload_n o_M_please_21 rfl ?_
    refine q2_callVv _ (a := 159) (As := []) (st := []) hs3 o_M_please_22 k_M_425 rfl rfl (Nat.le_of_ble_eq_true rfl) h6 (fun σ8 hs9 h7 => ?_)
    refine q_aload_n o_M_please_25 rfl ?_
    refine q_iconst (v := (-1)) o_M_please_26 (by decide) ?_
    refine q2_putI hs9 o_M_please_27 fp_M_438 rfl rfl rfl ?_
    refine q_iconst (v := 0) o_M_please_30 (by decide) ?_
    refine q2_istn (ls' := [some (.ref 159), some (.int p0), some (.int 0), none, none]) o_M_please_31 (Nat.le_of_ble_eq_true rfl) rfl ?_
    exact h7
  · have h10 := h1.2 c5
    refine q_iconst (v := (-1)) o_M_please_19 (by decide) ?_
    exact q_ire o_M_please_20 rfl h10

set_option maxRecDepth 20000 in
theorem v_M_please_32 {G : q_G} {d : Nat} {σ : q_S} {Q : Option Value → q_S → Prop} {p0 : Int32} {l2 : Int32}  (hs : q_Sh σ) (h : (((q_I σ 159 31) ≤ l2 → ((¬ p0 = 0 → ((¬ p0 = 1 → (∃ k8, (p0 - 2) = nI k8 ∧ k8 < 6 ∧ Q (some (.int (q_I σ 180 k8))) σ)) ∧ (p0 = 1 → Q (some (.int (q_I σ 159 34))) σ))) ∧ (p0 = 0 → Q (some (.int (q_I σ 159 33))) σ))) ∧ (¬ (q_I σ 159 31) ≤ l2 → q_Call G d 0 0 X_M_laysWay [.ref 159, .int l2] σ (q_rv (fun σ13 => q_Call G d 0 0 X_M_contentBy [.ref 159, .int 1804] σ13 (q_ri (fun x18 σ16 => q_Call G d 0 0 X_M_swapsTo [.ref 159] σ16 (q_ri (fun x22 σ20 => (((q_I σ20 159 33) < x18 → q_Call G d 0 0 X_M_takesWay [.ref 159, .int x18, .int x22] σ20 (q_rv (fun σ26 => q_At G X_M_please (d + 1) 0 0 32 [some (.ref 159), some (.int p0), some (.int (l2 + 1)), none, none] [] σ26 Q))) ∧ (¬ (q_I σ20 159 33) < x18 → ((¬ x18 = (q_I σ20 159 33) → q_At G X_M_please (d + 1) 0 0 32 [some (.ref 159), some (.int p0), some (.int (l2 + 1)), none, none] [] σ20 Q) ∧ (x18 = (q_I σ20 159 33) → (((q_I σ20 159 34) ≤ x22 → q_At G X_M_please (d + 1) 0 0 32 [some (.ref 159), some (.int p0), some (.int (l2 + 1)), none, none] [] σ20 Q) ∧ (¬ (q_I σ20 159 34) ≤ x22 → q_Call G d 0 0 X_M_takesWay [.ref 159, .int x18, .int x22] σ20 (q_rv (fun σ36 => q_At G X_M_please (d + 1) 0 0 32 [some (.ref 159), some (.int p0), some (.int (l2 + 1)), none, none] [] σ36 Q))))))))))))))))) : q_At G X_M_please (d + 1) 0 0 32 [some (.ref 159), some (.int p0), some (.int l2), none, none] [] σ Q := by
  refine q_iload_n o_M_please_32 rfl ?_
  refine q_aload_n o_M_please_33 rfl ?_
  refine q2_getI hs o_M_please_34 f_M_416 rfl ?_
  refine q_icmp_ge o_M_please_37 (fun c1 => ?_) (fun c1 => ?_)
  · have h2 := h.1 c1
    refine q_iload_n o_M_please_97 rfl ?_
    refine q_if_ne o_M_please_98 (fun c3 => ?_) (fun c3 => ?_)
    · have h4 := h2.1 c3
      refine q_iload_n o_M_please_108 rfl ?_
      refine q_iconst (v := 1) o_M_please_109 (by decide) ?_
      refine q_icmp_ne o_M_please_110 (fun c5 => ?_) (fun c5 => ?_)
      · have h6 := h4.1 c5
        refine q_aload_n o_M_please_120 rfl ?_
        refine q2_getR hs o_M_please_121 f_M_149 rfl (fz_159_32 hs) ?_
        refine q_iload_n o_M_please_124 rfl ?_
        refine q_iconst (v := 2) o_M_please_125 (by decide) ?_
        refine q_isub o_M_please_126 ?_
        obtain ⟨k8, eh7, bh7, h7⟩ := h6
        refine q2_iald hs o_M_please_127 rfl eh7 bh7 (by decide) ?_
        exact q_ire o_M_please_128 rfl h7
      · have h9 := h4.2 c5
        refine q_aload_n o_M_please_113 rfl ?_
        refine q2_getI hs o_M_please_114 f_M_441 rfl ?_
        refine q_goto o_M_please_117 ?_
        exact q_ire o_M_please_128 rfl h9
    · have h10 := h2.2 c3
      refine q_aload_n o_M_please_101 rfl ?_
      refine q2_getI hs o_M_please_102 f_M_438 rfl ?_
      refine q_goto o_M_please_105 ?_
      exact q_ire o_M_please_128 rfl h10
  · have h11 := h.2 c1
    refine q_aload_n o_M_please_40 rfl ?_
    refine q_iload_n o_M_please_41 rfl ?_
    refine q2_callVv _ (a := 159) (As := [.int l2]) (st := []) hs o_M_please_42 k_M_422 rfl rfl (Nat.le_of_ble_eq_true rfl) h11 (fun σ13 hs14 h12 => ?_)
    refine q_aload_n o_M_please_45 rfl ?_
    refine q_sipush (v := 1804) o_M_please_46 (by decide) ?_
    refine q2_callVi _ (a := 159) (As := [.int 1804]) (st := []) hs14 o_M_please_49 k_M_450 rfl rfl (Nat.le_of_ble_eq_true rfl) h12 (fun x18 σ16 hs17 h15 => ?_)
    refine q2_istn (ls' := [some (.ref 159), some (.int p0), some (.int l2), some (.int x18), none]) o_M_please_52 (Nat.le_of_ble_eq_true rfl) rfl ?_
    refine q_aload_n o_M_please_53 rfl ?_
    refine q2_callVi _ (a := 159) (As := []) (st := []) hs17 o_M_please_54 k_M_444 rfl rfl (Nat.le_of_ble_eq_true rfl) h15 (fun x22 σ20 hs21 h19 => ?_)
    refine q2_ist (ls' := [some (.ref 159), some (.int p0), some (.int l2), some (.int x18), some (.int x22)]) o_M_please_57 (Nat.le_of_ble_eq_true rfl) rfl ?_
    refine q_iload_n o_M_please_59 rfl ?_
    refine q_aload_n o_M_please_60 rfl ?_
    refine q2_getI hs21 o_M_please_61 f_M_438 rfl ?_
    refine q_icmp_gt o_M_please_64 (fun c23 => ?_) (fun c23 => ?_)
    · have h24 := h19.1 c23
      refine q_aload_n o_M_please_84 rfl ?_
      refine q_iload_n o_M_please_85 rfl ?_
      refine q_iload o_M_please_86 rfl ?_
      refine q2_callVv _ (a := 159) (As := [.int x18, .int x22]) (st := []) hs21 o_M_please_88 k_M_447 rfl rfl (Nat.le_of_ble_eq_true rfl) h24 (fun σ26 hs27 h25 => ?_)
      refine q2_inc (v := (l2 + 1)) (ls' := [some (.ref 159), some (.int p0), some (.int (l2 + 1)), some (.int x18), some (.int x22)]) o_M_please_91 rfl rfl (Nat.le_of_ble_eq_true rfl) rfl ?_
      refine q_goto o_M_please_94 ?_
      exact q_weak (ls' := [some (.ref 159), some (.int p0), some (.int (l2 + 1)), none, none]) (And.intro rfl (And.intro rfl (And.intro rfl trivial))) h25
    · have h28 := h19.2 c23
      refine q_iload_n o_M_please_67 rfl ?_
      refine q_aload_n o_M_please_68 rfl ?_
      refine q2_getI hs21 o_M_please_69 f_M_438 rfl ?_
      refine q_icmp_ne o_M_please_72 (fun c29 => ?_) (fun c29 => ?_)
      · have h30 := h28.1 c29
        refine q2_inc (v := (l2 + 1)) (ls' := [some (.ref 159), some (.int p0), some (.int (l2 + 1)), some (.int x18), some (.int x22)]) o_M_please_91 rfl rfl (Nat.le_of_ble_eq_true rfl) rfl ?_
        refine q_goto o_M_please_94 ?_
        exact q_weak (ls' := [some (.ref 159), some (.int p0), some (.int (l2 + 1)), none, none]) (And.intro rfl (And.intro rfl (And.intro rfl trivial))) h30
      · have h31 := h28.2 c29
        refine q_iload o_M_please_75 rfl ?_
        refine q_aload_n o_M_please_77 rfl ?_
        refine q2_getI hs21 o_M_please_78 f_M_441 rfl ?_
        refine q_icmp_ge o_M_please_81 (fun c32 => ?_) (fun c32 => ?_)
        · have h33 := h31.1 c32
          refine q2_inc (v := (l2 + 1)) (ls' := [some (.ref 159), some (.int p0), some (.int (l2 + 1)), some (.int x18), some (.int x22)]) o_M_please_91 rfl rfl (Nat.le_of_ble_eq_true rfl) rfl ?_
          refine q_goto o_M_please_94 ?_
          exact q_weak (ls' := [some (.ref 159), some (.int p0), some (.int (l2 + 1)), none, none]) (And.intro rfl (And.intro rfl (And.intro rfl trivial))) h33
        · have h34 := h31.2 c32
          refine q_aload_n o_M_please_84 rfl ?_
          refine q_iload_n o_M_please_85 rfl ?_
          refine q_iload o_M_please_86 rfl ?_
          refine q2_callVv _ (a := 159) (As := [.int x18, .int x22]) (st := []) hs21 o_M_please_88 k_M_447 rfl rfl (Nat.le_of_ble_eq_true rfl) h34 (fun σ36 hs37 h35 => ?_)
          refine q2_inc (v := (l2 + 1)) (ls' := [some (.ref 159), some (.int p0), some (.int (l2 + 1)), some (.int x18), some (.int x22)]) o_M_please_91 rfl rfl (Nat.le_of_ble_eq_true rfl) rfl ?_
          refine q_goto o_M_please_94 ?_
          exact q_weak (ls' := [some (.ref 159), some (.int p0), some (.int (l2 + 1)), none, none]) (And.intro rfl (And.intro rfl (And.intro rfl trivial))) h35

set_option maxRecDepth 20000 in
theorem v_M_quiet_0 {G : q_G} {d : Nat} {σ : q_S} {Q : Option Value → q_S → Prop} {p0 : Int32}  (hs : q_Sh σ) (h : ((p0 = (-1) → q_Call G d 0 0 X_M_findWays [.ref 159] (q_setI σ 159 0 0) (q_rv (fun σ4 => q_At G X_M_quiet (d + 1) 0 0 32 [some (.ref 159), some (.int p0), some (.int 0), none, none] [] (q_setI σ4 159 33 (-1)) Q))) ∧ (¬ p0 = (-1) → q_Call G d 0 0 X_M_isFamily [.ref 159, .int p0] (q_setI σ 159 0 0) (q_ri (fun x10 σ8 => ((¬ x10 = 0 → q_Call G d 0 0 X_M_findWays [.ref 159] σ8 (q_rv (fun σ14 => q_At G X_M_quiet (d + 1) 0 0 32 [some (.ref 159), some (.int p0), some (.int 0), none, none] [] (q_setI σ14 159 33 (-1)) Q))) ∧ (x10 = 0 → Q (some (.int (-2))) σ8))))))) : q_At G X_M_quiet (d + 1) 0 0 0 [some (.ref 159), some (.int p0), none, none, none] [] σ Q := by
  refine q_aload_n o_M_quiet_0 rfl ?_
  refine q_iconst (v := 0) o_M_quiet_1 (by decide) ?_
  refine q2_putI hs o_M_quiet_2 fp_M_1 rfl rfl rfl ?_
  refine q_iload_n o_M_quiet_5 rfl ?_
  refine q_iconst (v := (-1)) o_M_quiet_6 (by decide) ?_
  refine q_icmp_eq o_M_quiet_7 (fun c1 => ?_) (fun c1 => ?_)
  · have h2 := h.1 c1
    refine q_aload_n o_M_quiet_21 rfl ?_
    refine q2_callVv _ (a := 159) (As := []) (st := []) hs o_M_quiet_22 k_M_425 rfl rfl (Nat.le_of_ble_eq_true rfl) h2 (fun σ4 hs5 h3 => ?_)
    refine q_aload_n o_M_quiet_25 rfl ?_
    refine q_iconst (v := (-1)) o_M_quiet_26 (by decide) ?_
    refine q2_putI hs5 o_M_quiet_27 fp_M_438 rfl rfl rfl ?_
    refine q_iconst (v := 0) o_M_quiet_30 (by decide) ?_
    refine q2_istn (ls' := [some (.ref 159), some (.int p0), some (.int 0), none, none]) o_M_quiet_31 (Nat.le_of_ble_eq_true rfl) rfl ?_
    exact h3
  · have h6 := h.2 c1
    refine q_aload_n o_M_quiet_10 rfl ?_
    refine q_iload_n o_M_quiet_11 rfl ?_
    refine q2_callVi _ (a := 159) (As := [.int p0]) (st := []) hs o_M_quiet_12 k_M_332 rfl rfl (Nat.le_of_ble_eq_true rfl) h6 (fun x10 σ8 hs9 h7 => ?_)
    refine q_if_ne o_M_quiet_15 (fun c11 => ?_) (fun c11 => ?_)
    · have h12 := h7.1 c11
      refine q_aload_n o_M_quiet_21 rfl ?_
      refine q2_callVv _ (a := 159) (As := []) (st := []) hs9 o_M_quiet_22 k_M_425 rfl rfl (Nat.le_of_ble_eq_true rfl) h12 (fun σ14 hs15 h13 => ?_)
      refine q_aload_n o_M_quiet_25 rfl ?_
      refine q_iconst (v := (-1)) o_M_quiet_26 (by decide) ?_
      refine q2_putI hs15 o_M_quiet_27 fp_M_438 rfl rfl rfl ?_
      refine q_iconst (v := 0) o_M_quiet_30 (by decide) ?_
      refine q2_istn (ls' := [some (.ref 159), some (.int p0), some (.int 0), none, none]) o_M_quiet_31 (Nat.le_of_ble_eq_true rfl) rfl ?_
      exact h13
    · have h16 := h7.2 c11
      refine q_bipush (v := (-2)) o_M_quiet_18 (by decide) ?_
      exact q_ire o_M_quiet_20 rfl h16

set_option maxRecDepth 20000 in
theorem v_M_quiet_32 {G : q_G} {d : Nat} {σ : q_S} {Q : Option Value → q_S → Prop} {p0 : Int32} {l2 : Int32}  (hs : q_Sh σ) (h : (((q_I σ 159 31) ≤ l2 → ((0 ≤ p0 → (∃ k6, p0 = nI k6 ∧ k6 < 6 ∧ Q (some (.int (q_I σ 180 k6))) σ)) ∧ (¬ 0 ≤ p0 → Q (some (.int (q_I σ 159 33))) σ))) ∧ (¬ (q_I σ 159 31) ≤ l2 → q_Call G d 0 0 X_M_laysWay [.ref 159, .int l2] σ (q_rv (fun σ10 => q_At G X_M_quiet (d + 1) 0 0 50 [some (.ref 159), some (.int p0), some (.int l2), some (.int 0), some (.int 0)] [] σ10 Q))))) : q_At G X_M_quiet (d + 1) 0 0 32 [some (.ref 159), some (.int p0), some (.int l2), none, none] [] σ Q := by
  refine q_iload_n o_M_quiet_32 rfl ?_
  refine q_aload_n o_M_quiet_33 rfl ?_
  refine q2_getI hs o_M_quiet_34 f_M_416 rfl ?_
  refine q_icmp_ge o_M_quiet_37 (fun c1 => ?_) (fun c1 => ?_)
  · have h2 := h.1 c1
    refine q_iload_n o_M_quiet_104 rfl ?_
    refine q_if_ge o_M_quiet_105 (fun c3 => ?_) (fun c3 => ?_)
    · have h4 := h2.1 c3
      refine q_aload_n o_M_quiet_115 rfl ?_
      refine q2_getR hs o_M_quiet_116 f_M_149 rfl (fz_159_32 hs) ?_
      refine q_iload_n o_M_quiet_119 rfl ?_
      obtain ⟨k6, eh5, bh5, h5⟩ := h4
      refine q2_iald hs o_M_quiet_120 rfl eh5 bh5 (by decide) ?_
      exact q_ire o_M_quiet_121 rfl h5
    · have h7 := h2.2 c3
      refine q_aload_n o_M_quiet_108 rfl ?_
      refine q2_getI hs o_M_quiet_109 f_M_438 rfl ?_
      refine q_goto o_M_quiet_112 ?_
      exact q_ire o_M_quiet_121 rfl h7
  · have h8 := h.2 c1
    refine q_aload_n o_M_quiet_40 rfl ?_
    refine q_iload_n o_M_quiet_41 rfl ?_
    refine q2_callVv _ (a := 159) (As := [.int l2]) (st := []) hs o_M_quiet_42 k_M_422 rfl rfl (Nat.le_of_ble_eq_true rfl) h8 (fun σ10 hs11 h9 => ?_)
    refine q_iconst (v := 0) o_M_quiet_45 (by decide) ?_
    refine q2_istn (ls' := [some (.ref 159), some (.int p0), some (.int l2), some (.int 0), none]) o_M_quiet_46 (Nat.le_of_ble_eq_true rfl) rfl ?_
    refine q_iconst (v := 0) o_M_quiet_47 (by decide) ?_
    refine q2_ist (ls' := [some (.ref 159), some (.int p0), some (.int l2), some (.int 0), some (.int 0)]) o_M_quiet_48 (Nat.le_of_ble_eq_true rfl) rfl ?_
    exact h9

set_option maxRecDepth 20000 in
theorem v_M_quiet_50 {G : q_G} {d : Nat} {σ : q_S} {Q : Option Value → q_S → Prop} {p0 : Int32} {l2 : Int32} {l3 : Int32} {l4 : Int32}  (hs : q_Sh σ) (h : (((q_I σ 165 1) ≤ l4 → (((q_I σ 159 33) < 0 → q_Call G d 0 0 X_M_takesWay [.ref 159, .int l3, .int 0] σ (q_rv (fun σ6 => q_At G X_M_quiet (d + 1) 0 0 32 [some (.ref 159), some (.int p0), some (.int (l2 + 1)), none, none] [] σ6 Q))) ∧ (¬ (q_I σ 159 33) < 0 → (((q_I σ 159 33) ≤ l3 → q_At G X_M_quiet (d + 1) 0 0 32 [some (.ref 159), some (.int p0), some (.int (l2 + 1)), none, none] [] σ Q) ∧ (¬ (q_I σ 159 33) ≤ l3 → q_Call G d 0 0 X_M_takesWay [.ref 159, .int l3, .int 0] σ (q_rv (fun σ13 => q_At G X_M_quiet (d + 1) 0 0 32 [some (.ref 159), some (.int p0), some (.int (l2 + 1)), none, none] [] σ13 Q))))))) ∧ (¬ (q_I σ 165 1) ≤ l4 → q_Call G d 0 0 X_M_feltBy [.ref 159, .int 1804, .int l4] σ (q_ri (fun x19 σ17 => q_At G X_M_quiet (d + 1) 0 0 50 [some (.ref 159), some (.int p0), some (.int l2), some (.int (l3 + x19)), some (.int (l4 + 1))] [] σ17 Q))))) : q_At G X_M_quiet (d + 1) 0 0 50 [some (.ref 159), some (.int p0), some (.int l2), some (.int l3), some (.int l4)] [] σ Q := by
  refine q_iload o_M_quiet_50 rfl ?_
  refine q_aload_n o_M_quiet_52 rfl ?_
  refine q2_M_families hs o_M_quiet_53 k_M_309 (Nat.le_of_ble_eq_true rfl) ?_
  refine q_icmp_ge o_M_quiet_56 (fun c1 => ?_) (fun c1 => ?_)
  · have h2 := h.1 c1
    refine q_aload_n o_M_quiet_77 rfl ?_
    refine q2_getI hs o_M_quiet_78 f_M_438 rfl ?_
    refine q_if_lt o_M_quiet_81 (fun c3 => ?_) (fun c3 => ?_)
    · have h4 := h2.1 c3
      refine q_aload_n o_M_quiet_92 rfl ?_
      refine q_iload_n o_M_quiet_93 rfl ?_
      refine q_iconst (v := 0) o_M_quiet_94 (by decide) ?_
      refine q2_callVv _ (a := 159) (As := [.int l3, .int 0]) (st := []) hs o_M_quiet_95 k_M_447 rfl rfl (Nat.le_of_ble_eq_true rfl) h4 (fun σ6 hs7 h5 => ?_)
      refine q2_inc (v := (l2 + 1)) (ls' := [some (.ref 159), some (.int p0), some (.int (l2 + 1)), some (.int l3), some (.int l4)]) o_M_quiet_98 rfl rfl (Nat.le_of_ble_eq_true rfl) rfl ?_
      refine q_goto o_M_quiet_101 ?_
      exact q_weak (ls' := [some (.ref 159), some (.int p0), some (.int (l2 + 1)), none, none]) (And.intro rfl (And.intro rfl (And.intro rfl trivial))) h5
    · have h8 := h2.2 c3
      refine q_iload_n o_M_quiet_84 rfl ?_
      refine q_aload_n o_M_quiet_85 rfl ?_
      refine q2_getI hs o_M_quiet_86 f_M_438 rfl ?_
      refine q_icmp_ge o_M_quiet_89 (fun c9 => ?_) (fun c9 => ?_)
      · have h10 := h8.1 c9
        refine q2_inc (v := (l2 + 1)) (ls' := [some (.ref 159), some (.int p0), some (.int (l2 + 1)), some (.int l3), some (.int l4)]) o_M_quiet_98 rfl rfl (Nat.le_of_ble_eq_true rfl) rfl ?_
        refine q_goto o_M_quiet_101 ?_
        exact q_weak (ls' := [some (.ref 159), some (.int p0), some (.int (l2 + 1)), none, none]) (And.intro rfl (And.intro rfl (And.intro rfl trivial))) h10
      · have h11 := h8.2 c9
        refine q_aload_n o_M_quiet_92 rfl ?_
        refine q_iload_n o_M_quiet_93 rfl ?_
        refine q_iconst (v := 0) o_M_quiet_94 (by decide) ?_
        refine q2_callVv _ (a := 159) (As := [.int l3, .int 0]) (st := []) hs o_M_quiet_95 k_M_447 rfl rfl (Nat.le_of_ble_eq_true rfl) h11 (fun σ13 hs14 h12 => ?_)
        refine q2_inc (v := (l2 + 1)) (ls' := [some (.ref 159), some (.int p0), some (.int (l2 + 1)), some (.int l3), some (.int l4)]) o_M_quiet_98 rfl rfl (Nat.le_of_ble_eq_true rfl) rfl ?_
        refine q_goto o_M_quiet_101 ?_
        exact q_weak (ls' := [some (.ref 159), some (.int p0), some (.int (l2 + 1)), none, none]) (And.intro rfl (And.intro rfl (And.intro rfl trivial))) h12
  · have h15 := h.2 c1
    refine q_iload_n o_M_quiet_59 rfl ?_
    refine q_aload_n o_M_quiet_60 rfl ?_
    refine q_sipush (v := 1804) o_M_quiet_61 (by decide) ?_
    refine q_iload o_M_quiet_64 rfl ?_
    refine q2_callVi _ (a := 159) (As := [.int 1804, .int l4]) (st := [.int l3]) hs o_M_quiet_66 k_M_350 rfl rfl (Nat.le_of_ble_eq_true rfl) h15 (fun x19 σ17 hs18 h16 => ?_)
    refine q_iadd o_M_quiet_69 ?_
    refine q2_istn (ls' := [some (.ref 159), some (.int p0), some (.int l2), some (.int (l3 + x19)), some (.int l4)]) o_M_quiet_70 (Nat.le_of_ble_eq_true rfl) rfl ?_
    refine q2_inc (v := (l4 + 1)) (ls' := [some (.ref 159), some (.int p0), some (.int l2), some (.int (l3 + x19)), some (.int (l4 + 1))]) o_M_quiet_71 rfl rfl (Nat.le_of_ble_eq_true rfl) rfl ?_
    refine q_goto o_M_quiet_74 ?_
    exact h16

set_option maxRecDepth 20000 in
theorem v_M_getsBy_0 {G : q_G} {d : Nat} {σ : q_S} {Q : Option Value → q_S → Prop} {p0 : Int32} {p1 : Int32} {p2 : Int32} {p3 : Int32}  (hs : q_Sh σ) (h : q_Call G d 0 0 X_M_likes [.ref 159, .int p0, .int p1] σ (q_ri (fun x4 σ2 => ((0 ≤ (q_I (q_setI (q_setI (q_setI σ2 173 3 x4) 173 6 p2) 173 7 p3) 165 7) → q_Call G d 0 0 X_M_worthAt [.ref 159, .int (q_I (q_setI (q_setI (q_setI σ2 173 3 x4) 173 6 p2) 173 7 p3) 165 7)] (q_setI (q_setI (q_setI σ2 173 3 x4) 173 6 p2) 173 7 p3) (q_ri (fun x20 σ18 => Q (some (.int (if (-99) ≤ x20 then (if x20 ≤ 99 then x20 else (99 : Int32)) else ((-99) : Int32)))) σ18))) ∧ (¬ 0 ≤ (q_I (q_setI (q_setI (q_setI σ2 173 3 x4) 173 6 p2) 173 7 p3) 165 7) → Q (some (.int (if (-99) ≤ (((p3 * 2) - p2) + (q_I (q_setI (q_setI (q_setI σ2 173 3 x4) 173 6 p2) 173 7 p3) 173 3)) then (if (((p3 * 2) - p2) + (q_I (q_setI (q_setI (q_setI σ2 173 3 x4) 173 6 p2) 173 7 p3) 173 3)) ≤ 99 then (((p3 * 2) - p2) + (q_I (q_setI (q_setI (q_setI σ2 173 3 x4) 173 6 p2) 173 7 p3) 173 3)) else (99 : Int32)) else ((-99) : Int32)))) (q_setI (q_setI (q_setI σ2 173 3 x4) 173 6 p2) 173 7 p3)))))) : q_At G X_M_getsBy (d + 1) 0 0 0 [some (.ref 159), some (.int p0), some (.int p1), some (.int p2), some (.int p3), none] [] σ Q := by
  refine q_aload_n o_M_getsBy_0 rfl ?_
  refine q2_getR hs o_M_getsBy_1 f_M_127 rfl (fz_159_22 hs) ?_
  refine q_iconst (v := 3) o_M_getsBy_4 (by decide) ?_
  refine q_aload_n o_M_getsBy_5 rfl ?_
  refine q_iload_n o_M_getsBy_6 rfl ?_
  refine q_iload_n o_M_getsBy_7 rfl ?_
  refine q2_callVi _ (a := 159) (As := [.int p0, .int p1]) (st := [.int 3, .ref 173]) hs o_M_getsBy_8 k_M_347 rfl rfl (Nat.le_of_ble_eq_true rfl) h (fun x4 σ2 hs3 h1 => ?_)
  refine q2_iast (i := 3) hs3 o_M_getsBy_11 rfl rfl (by decide) (by decide) ?_
  refine q_aload_n o_M_getsBy_12 rfl ?_
  refine q2_getR hs3 o_M_getsBy_13 f_M_127 rfl (fz_159_22 hs3) ?_
  refine q_bipush (v := 6) o_M_getsBy_16 (by decide) ?_
  refine q_iload_n o_M_getsBy_18 rfl ?_
  refine q2_iast (i := 6) hs3 o_M_getsBy_19 rfl rfl (by decide) (by decide) ?_
  refine q_aload_n o_M_getsBy_20 rfl ?_
  refine q2_getR hs3 o_M_getsBy_21 f_M_127 rfl (fz_159_22 hs3) ?_
  refine q_bipush (v := 7) o_M_getsBy_24 (by decide) ?_
  refine q_iload o_M_getsBy_26 rfl ?_
  refine q2_iast (i := 7) hs3 o_M_getsBy_28 rfl rfl (by decide) (by decide) ?_
  refine q_aload_n o_M_getsBy_29 rfl ?_
  refine q2_getR hs3 o_M_getsBy_30 f_M_103 rfl (fz_159_10 hs3) ?_
  refine q_bipush (v := 7) o_M_getsBy_33 (by decide) ?_
  refine q2_iald (i := 7) hs3 o_M_getsBy_35 rfl rfl (by decide) (by decide) ?_
  refine q_if_ge o_M_getsBy_36 (fun c13 => ?_) (fun c13 => ?_)
  · have h14 := h1.1 c13
    refine q_aload_n o_M_getsBy_55 rfl ?_
    refine q_aload_n o_M_getsBy_56 rfl ?_
    refine q2_getR hs3 o_M_getsBy_57 f_M_103 rfl (fz_159_10 hs3) ?_
    refine q_bipush (v := 7) o_M_getsBy_60 (by decide) ?_
    refine q2_iald (i := 7) hs3 o_M_getsBy_62 rfl rfl (by decide) (by decide) ?_
    refine q2_callVi _ (a := 159) (As := [.int (q_I (q_setI (q_setI (q_setI σ2 173 3 x4) 173 6 p2) 173 7 p3) 165 7)]) (st := []) hs3 o_M_getsBy_63 k_M_341 rfl rfl (Nat.le_of_ble_eq_true rfl) h14 (fun x20 σ18 hs19 h17 => ?_)
    refine q2_ist (ls' := [some (.ref 159), some (.int p0), some (.int p1), some (.int p2), some (.int p3), some (.int x20)]) o_M_getsBy_66 (Nat.le_of_ble_eq_true rfl) rfl ?_
    refine q_iload o_M_getsBy_68 rfl ?_
    refine q_bipush (v := (-99)) o_M_getsBy_70 (by decide) ?_
    have hJ : ∀ vJ : Int32, vJ = (if (-99) ≤ x20 then (if x20 ≤ 99 then x20 else (99 : Int32)) else ((-99) : Int32)) → q_At G X_M_getsBy (d + 1) 0 0 94 [some (.ref 159), some (.int p0), some (.int p1), some (.int p2), some (.int p3), some (.int x20)] [.int vJ] σ18 Q := by
      intro vJ eJ
      rw [eJ]
      clear eJ vJ
      exact q_ire o_M_getsBy_94 rfl h17
    refine q_icmp_ge o_M_getsBy_72 (fun c21 => ?_) (fun c21 => ?_)
    · refine q_iload o_M_getsBy_80 rfl ?_
      refine q_bipush (v := 99) o_M_getsBy_82 (by decide) ?_
      refine q_icmp_le o_M_getsBy_84 (fun c22 => ?_) (fun c22 => ?_)
      · refine q_iload o_M_getsBy_92 rfl ?_
        exact hJ _ (Eq.symm ((if_pos c21).trans (if_pos c22)))
      · refine q_bipush (v := 99) o_M_getsBy_87 (by decide) ?_
        refine q_goto o_M_getsBy_89 ?_
        exact hJ _ (Eq.symm ((if_pos c21).trans (if_neg c22)))
    · refine q_bipush (v := (-99)) o_M_getsBy_75 (by decide) ?_
      refine q_goto o_M_getsBy_77 ?_
      exact hJ _ (Eq.symm (if_neg c21))
  · have h23 := h1.2 c13
    refine q_iload o_M_getsBy_39 rfl ?_
    refine q_iconst (v := 2) o_M_getsBy_41 (by decide) ?_
    refine q_imul o_M_getsBy_42 ?_
    refine q_iload_n o_M_getsBy_43 rfl ?_
    refine q_isub o_M_getsBy_44 ?_
    refine q_aload_n o_M_getsBy_45 rfl ?_
    refine q2_getR hs3 o_M_getsBy_46 f_M_127 rfl (fz_159_22 hs3) ?_
    refine q_iconst (v := 3) o_M_getsBy_49 (by decide) ?_
    refine q2_iald (i := 3) hs3 o_M_getsBy_50 rfl rfl (by decide) (by decide) ?_
    refine q_iadd o_M_getsBy_51 ?_
    refine q_goto o_M_getsBy_52 ?_
    refine q2_ist (ls' := [some (.ref 159), some (.int p0), some (.int p1), some (.int p2), some (.int p3), some (.int (((p3 * 2) - p2) + (q_I (q_setI (q_setI (q_setI σ2 173 3 x4) 173 6 p2) 173 7 p3) 173 3)))]) o_M_getsBy_66 (Nat.le_of_ble_eq_true rfl) rfl ?_
    refine q_iload o_M_getsBy_68 rfl ?_
    refine q_bipush (v := (-99)) o_M_getsBy_70 (by decide) ?_
    have hJ : ∀ vJ : Int32, vJ = (if (-99) ≤ (((p3 * 2) - p2) + (q_I (q_setI (q_setI (q_setI σ2 173 3 x4) 173 6 p2) 173 7 p3) 173 3)) then (if (((p3 * 2) - p2) + (q_I (q_setI (q_setI (q_setI σ2 173 3 x4) 173 6 p2) 173 7 p3) 173 3)) ≤ 99 then (((p3 * 2) - p2) + (q_I (q_setI (q_setI (q_setI σ2 173 3 x4) 173 6 p2) 173 7 p3) 173 3)) else (99 : Int32)) else ((-99) : Int32)) → q_At G X_M_getsBy (d + 1) 0 0 94 [some (.ref 159), some (.int p0), some (.int p1), some (.int p2), some (.int p3), some (.int (((p3 * 2) - p2) + (q_I (q_setI (q_setI (q_setI σ2 173 3 x4) 173 6 p2) 173 7 p3) 173 3)))] [.int vJ] (q_setI (q_setI (q_setI σ2 173 3 x4) 173 6 p2) 173 7 p3) Q := by
      intro vJ eJ
      rw [eJ]
      clear eJ vJ
      exact q_ire o_M_getsBy_94 rfl h23
    refine q_icmp_ge o_M_getsBy_72 (fun c26 => ?_) (fun c26 => ?_)
    · refine q_iload o_M_getsBy_80 rfl ?_
      refine q_bipush (v := 99) o_M_getsBy_82 (by decide) ?_
      refine q_icmp_le o_M_getsBy_84 (fun c27 => ?_) (fun c27 => ?_)
      · refine q_iload o_M_getsBy_92 rfl ?_
        exact hJ _ (Eq.symm ((if_pos c26).trans (if_pos c27)))
      · refine q_bipush (v := 99) o_M_getsBy_87 (by decide) ?_
        refine q_goto o_M_getsBy_89 ?_
        exact hJ _ (Eq.symm ((if_pos c26).trans (if_neg c27)))
    · refine q_bipush (v := (-99)) o_M_getsBy_75 (by decide) ?_
      refine q_goto o_M_getsBy_77 ?_
      exact hJ _ (Eq.symm (if_neg c26))

set_option maxRecDepth 20000 in
theorem v_M_rests_0 {G : q_G} {d : Nat} {σ : q_S} {Q : Option Value → q_S → Prop} {p0 : Int32} {p1 : Int32} {p2 : Int32}  (hs : q_Sh σ) (h : q_Call G d 0 0 X_M_areTwo [.ref 159, .int p0, .int p1] σ (q_ri (fun x4 σ2 => ((x4 = 0 → q_At G X_M_rests (d + 1) 0 0 40 [some (.ref 159), some (.int p0), some (.int p1), some (.int p2), some (.int 0), some (.int 0), some (.int (-1)), some (.int 0), none, none, none] [] σ2 Q) ∧ (¬ x4 = 0 → q_Call G d 0 0 X_M_wallBy [.ref 159, .int 0, .int p0, .int p1] σ2 (q_ri (fun x11 σ9 => q_At G X_M_rests (d + 1) 0 0 40 [some (.ref 159), some (.int p0), some (.int p1), some (.int p2), some (.int (if x11 ≤ 0 then (0 : Int32) else (if p2 < (-1) then (0 : Int32) else (1 : Int32)))), some (.int 0), some (.int (-1)), some (.int 0), none, none, none] [] σ9 Q))))))) : q_At G X_M_rests (d + 1) 0 0 0 [some (.ref 159), some (.int p0), some (.int p1), some (.int p2), none, none, none, none, none, none, none] [] σ Q := by
  refine q_aload_n o_M_rests_0 rfl ?_
  refine q_iload_n o_M_rests_1 rfl ?_
  refine q_iload_n o_M_rests_2 rfl ?_
  refine q2_callVi _ (a := 159) (As := [.int p0, .int p1]) (st := []) hs o_M_rests_3 k_M_362 rfl rfl (Nat.le_of_ble_eq_true rfl) h (fun x4 σ2 hs3 h1 => ?_)
  refine q_if_eq o_M_rests_6 (fun c5 => ?_) (fun c5 => ?_)
  · have h6 := h1.1 c5
    refine q_iconst (v := 0) o_M_rests_28 (by decide) ?_
    refine q2_ist (ls' := [some (.ref 159), some (.int p0), some (.int p1), some (.int p2), some (.int 0), none, none, none, none, none, none]) o_M_rests_29 (Nat.le_of_ble_eq_true rfl) rfl ?_
    refine q_iconst (v := 0) o_M_rests_31 (by decide) ?_
    refine q2_ist (ls' := [some (.ref 159), some (.int p0), some (.int p1), some (.int p2), some (.int 0), some (.int 0), none, none, none, none, none]) o_M_rests_32 (Nat.le_of_ble_eq_true rfl) rfl ?_
    refine q_iconst (v := (-1)) o_M_rests_34 (by decide) ?_
    refine q2_ist (ls' := [some (.ref 159), some (.int p0), some (.int p1), some (.int p2), some (.int 0), some (.int 0), some (.int (-1)), none, none, none, none]) o_M_rests_35 (Nat.le_of_ble_eq_true rfl) rfl ?_
    refine q_iconst (v := 0) o_M_rests_37 (by decide) ?_
    refine q2_ist (ls' := [some (.ref 159), some (.int p0), some (.int p1), some (.int p2), some (.int 0), some (.int 0), some (.int (-1)), some (.int 0), none, none, none]) o_M_rests_38 (Nat.le_of_ble_eq_true rfl) rfl ?_
    exact h6
  · have h7 := h1.2 c5
    refine q_aload_n o_M_rests_9 rfl ?_
    refine q_iconst (v := 0) o_M_rests_10 (by decide) ?_
    refine q_iload_n o_M_rests_11 rfl ?_
    refine q_iload_n o_M_rests_12 rfl ?_
    refine q2_callVi _ (a := 159) (As := [.int 0, .int p0, .int p1]) (st := []) hs3 o_M_rests_13 k_M_344 rfl rfl (Nat.le_of_ble_eq_true rfl) h7 (fun x11 σ9 hs10 h8 => ?_)
    have hJ : ∀ vJ : Int32, vJ = (if x11 ≤ 0 then (0 : Int32) else (if p2 < (-1) then (0 : Int32) else (1 : Int32))) → q_At G X_M_rests (d + 1) 0 0 29 [some (.ref 159), some (.int p0), some (.int p1), some (.int p2), none, none, none, none, none, none, none] [.int vJ] σ9 Q := by
      intro vJ eJ
      rw [eJ]
      clear eJ vJ
      refine q2_ist (ls' := [some (.ref 159), some (.int p0), some (.int p1), some (.int p2), some (.int (if x11 ≤ 0 then (0 : Int32) else (if p2 < (-1) then (0 : Int32) else (1 : Int32)))), none, none, none, none, none, none]) o_M_rests_29 (Nat.le_of_ble_eq_true rfl) rfl ?_
      refine q_iconst (v := 0) o_M_rests_31 (by decide) ?_
      refine q2_ist (ls' := [some (.ref 159), some (.int p0), some (.int p1), some (.int p2), some (.int (if x11 ≤ 0 then (0 : Int32) else (if p2 < (-1) then (0 : Int32) else (1 : Int32)))), some (.int 0), none, none, none, none, none]) o_M_rests_32 (Nat.le_of_ble_eq_true rfl) rfl ?_
      refine q_iconst (v := (-1)) o_M_rests_34 (by decide) ?_
      refine q2_ist (ls' := [some (.ref 159), some (.int p0), some (.int p1), some (.int p2), some (.int (if x11 ≤ 0 then (0 : Int32) else (if p2 < (-1) then (0 : Int32) else (1 : Int32)))), some (.int 0), some (.int (-1)), none, none, none, none]) o_M_rests_35 (Nat.le_of_ble_eq_true rfl) rfl ?_
      refine q_iconst (v := 0) o_M_rests_37 (by decide) ?_
      refine q2_ist (ls' := [some (.ref 159), some (.int p0), some (.int p1), some (.int p2), some (.int (if x11 ≤ 0 then (0 : Int32) else (if p2 < (-1) then (0 : Int32) else (1 : Int32)))), some (.int 0), some (.int (-1)), some (.int 0), none, none, none]) o_M_rests_38 (Nat.le_of_ble_eq_true rfl) rfl ?_
      exact h8
    refine q_if_le o_M_rests_16 (fun c12 => ?_) (fun c12 => ?_)
    · refine q_iconst (v := 0) o_M_rests_28 (by decide) ?_
      exact hJ _ (Eq.symm (if_pos c12))
    · refine q_iload_n o_M_rests_19 rfl ?_
      refine q_iconst (v := (-1)) o_M_rests_20 (by decide) ?_
      refine q_icmp_lt o_M_rests_21 (fun c13 => ?_) (fun c13 => ?_)
      · refine q_iconst (v := 0) o_M_rests_28 (by decide) ?_
        exact hJ _ (Eq.symm ((if_neg c12).trans (if_pos c13)))
      · refine q_iconst (v := 1) o_M_rests_24 (by decide) ?_
        refine q_goto o_M_rests_25 ?_
        exact hJ _ (Eq.symm ((if_neg c12).trans (if_neg c13)))

set_option maxRecDepth 20000 in
theorem v_M_rests_40 {G : q_G} {d : Nat} {σ : q_S} {Q : Option Value → q_S → Prop} {p0 : Int32} {p1 : Int32} {p2 : Int32} {l4 : Int32} {l5 : Int32} {l6 : Int32} {l7 : Int32}  (hs : q_Sh σ) (h : ((4 ≤ l7 → Q (some (.int (if (q_I (q_setI σ 159 0 (if l4 = 0 then (1 : Int32) else (if p2 < 0 then (0 : Int32) else (if l6 < 0 then (1 : Int32) else (0 : Int32))))) 159 0) ≤ 0 then (if 0 ≤ p2 then l6 else l5) else (0 : Int32)))) (q_setI σ 159 0 (if l4 = 0 then (1 : Int32) else (if p2 < 0 then (0 : Int32) else (if l6 < 0 then (1 : Int32) else (0 : Int32)))))) ∧ (¬ 4 ≤ l7 → ((l4 = 0 → Q (some (.int (if (q_I (q_setI σ 159 0 (if l4 = 0 then (1 : Int32) else (if p2 < 0 then (0 : Int32) else (if l6 < 0 then (1 : Int32) else (0 : Int32))))) 159 0) ≤ 0 then (if 0 ≤ p2 then l6 else l5) else (0 : Int32)))) (q_setI σ 159 0 (if l4 = 0 then (1 : Int32) else (if p2 < 0 then (0 : Int32) else (if l6 < 0 then (1 : Int32) else (0 : Int32)))))) ∧ (¬ l4 = 0 → q_Call G d 0 0 X_M_getsBy [.ref 159, .int p0, .int p1, .int (1 - (l7 / 2)), .int (l7 - l7 / 2 * 2)] σ (q_ri (fun x20 σ18 => q_Call G d 0 0 X_M_getsBy [.ref 159, .int p0, .int p1, .int (l7 / 2), .int (l7 - l7 / 2 * 2)] σ18 (q_ri (fun x24 σ22 => ((x24 < x20 → q_At G X_M_rests (d + 1) 0 0 40 [some (.ref 159), some (.int p0), some (.int p1), some (.int p2), some (.int l4), some (.int (l5 + 0)), some (.int l6), some (.int (l7 + 1)), none, none, none] [] σ22 Q) ∧ (¬ x24 < x20 → q_Call G d 0 0 X_M_getsBy [.ref 159, .int p1, .int p0, .int (1 - (l7 - l7 / 2 * 2)), .int (l7 / 2)] σ22 (q_ri (fun x33 σ31 => q_Call G d 0 0 X_M_getsBy [.ref 159, .int p1, .int p0, .int (l7 - l7 / 2 * 2), .int (l7 / 2)] σ31 (q_ri (fun x37 σ35 => q_At G X_M_rests (d + 1) 0 0 40 [some (.ref 159), some (.int p0), some (.int p1), some (.int p2), some (.int l4), some (.int (l5 + (if (if x37 < x33 then (0 : Int32) else (1 : Int32)) = 0 then (0 : Int32) else (1 : Int32)))), some (.int (if (if x37 < x33 then (0 : Int32) else (1 : Int32)) = 0 then l6 else (if l5 = p2 then l7 else l6))), some (.int (l7 + 1)), none, none, none] [] σ35 Q))))))))))))))) : q_At G X_M_rests (d + 1) 0 0 40 [some (.ref 159), some (.int p0), some (.int p1), some (.int p2), some (.int l4), some (.int l5), some (.int l6), some (.int l7), none, none, none] [] σ Q := by
  refine q_iload o_M_rests_40 rfl ?_
  refine q_iconst (v := 4) o_M_rests_42 (by decide) ?_
  refine q_icmp_ge o_M_rests_43 (fun c1 => ?_) (fun c1 => ?_)
  · have h2 := h.1 c1
    refine q_aload_n o_M_rests_161 rfl ?_
    refine q_iload o_M_rests_162 rfl ?_
    have hJ : ∀ vJ : Int32, vJ = (if l4 = 0 then (1 : Int32) else (if p2 < 0 then (0 : Int32) else (if l6 < 0 then (1 : Int32) else (0 : Int32)))) → q_At G X_M_rests (d + 1) 0 0 181 [some (.ref 159), some (.int p0), some (.int p1), some (.int p2), some (.int l4), some (.int l5), some (.int l6), some (.int l7), none, none, none] [.int vJ, .ref 159] σ Q := by
      intro vJ eJ
      rw [eJ]
      clear eJ vJ
      refine q2_putI hs o_M_rests_181 fp_M_1 rfl rfl rfl ?_
      refine q_aload_n o_M_rests_184 rfl ?_
      refine q2_getI hs o_M_rests_185 f_M_1 rfl ?_
      have hJ : ∀ vJ : Int32, vJ = (if (q_I (q_setI σ 159 0 (if l4 = 0 then (1 : Int32) else (if p2 < 0 then (0 : Int32) else (if l6 < 0 then (1 : Int32) else (0 : Int32))))) 159 0) ≤ 0 then (if 0 ≤ p2 then l6 else l5) else (0 : Int32)) → q_At G X_M_rests (d + 1) 0 0 206 [some (.ref 159), some (.int p0), some (.int p1), some (.int p2), some (.int l4), some (.int l5), some (.int l6), some (.int l7), none, none, none] [.int vJ] (q_setI σ 159 0 (if l4 = 0 then (1 : Int32) else (if p2 < 0 then (0 : Int32) else (if l6 < 0 then (1 : Int32) else (0 : Int32))))) Q := by
        intro vJ eJ
        rw [eJ]
        clear eJ vJ
        exact q_ire o_M_rests_206 rfl h2
      refine q_if_le o_M_rests_188 (fun c6 => ?_) (fun c6 => ?_)
      · refine q_iload_n o_M_rests_195 rfl ?_
        refine q_if_ge o_M_rests_196 (fun c7 => ?_) (fun c7 => ?_)
        · refine q_iload o_M_rests_204 rfl ?_
          exact hJ _ (Eq.symm ((if_pos c6).trans (if_pos c7)))
        · refine q_iload o_M_rests_199 rfl ?_
          refine q_goto o_M_rests_201 ?_
          exact hJ _ (Eq.symm ((if_pos c6).trans (if_neg c7)))
      · refine q_iconst (v := 0) o_M_rests_191 (by decide) ?_
        refine q_goto o_M_rests_192 ?_
        exact hJ _ (Eq.symm (if_neg c6))
    refine q_if_eq o_M_rests_164 (fun c3 => ?_) (fun c3 => ?_)
    · refine q_iconst (v := 1) o_M_rests_180 (by decide) ?_
      exact hJ _ (Eq.symm (if_pos c3))
    · refine q_iload_n o_M_rests_167 rfl ?_
      refine q_if_lt o_M_rests_168 (fun c4 => ?_) (fun c4 => ?_)
      · refine q_iconst (v := 0) o_M_rests_176 (by decide) ?_
        refine q_goto o_M_rests_177 ?_
        exact hJ _ (Eq.symm ((if_neg c3).trans (if_pos c4)))
      · refine q_iload o_M_rests_171 rfl ?_
        refine q_if_lt o_M_rests_173 (fun c5 => ?_) (fun c5 => ?_)
        · refine q_iconst (v := 1) o_M_rests_180 (by decide) ?_
          exact hJ _ (Eq.symm (((if_neg c3).trans (if_neg c4)).trans (if_pos c5)))
        · refine q_iconst (v := 0) o_M_rests_176 (by decide) ?_
          refine q_goto o_M_rests_177 ?_
          exact hJ _ (Eq.symm (((if_neg c3).trans (if_neg c4)).trans (if_neg c5)))
  · have h8 := h.2 c1
    refine q_iload o_M_rests_46 rfl ?_
    refine q_if_eq o_M_rests_48 (fun c9 => ?_) (fun c9 => ?_)
    · have h10 := h8.1 c9
      refine q_aload_n o_M_rests_161 rfl ?_
      refine q_iload o_M_rests_162 rfl ?_
      have hJ : ∀ vJ : Int32, vJ = (if l4 = 0 then (1 : Int32) else (if p2 < 0 then (0 : Int32) else (if l6 < 0 then (1 : Int32) else (0 : Int32)))) → q_At G X_M_rests (d + 1) 0 0 181 [some (.ref 159), some (.int p0), some (.int p1), some (.int p2), some (.int l4), some (.int l5), some (.int l6), some (.int l7), none, none, none] [.int vJ, .ref 159] σ Q := by
        intro vJ eJ
        rw [eJ]
        clear eJ vJ
        refine q2_putI hs o_M_rests_181 fp_M_1 rfl rfl rfl ?_
        refine q_aload_n o_M_rests_184 rfl ?_
        refine q2_getI hs o_M_rests_185 f_M_1 rfl ?_
        have hJ : ∀ vJ : Int32, vJ = (if (q_I (q_setI σ 159 0 (if l4 = 0 then (1 : Int32) else (if p2 < 0 then (0 : Int32) else (if l6 < 0 then (1 : Int32) else (0 : Int32))))) 159 0) ≤ 0 then (if 0 ≤ p2 then l6 else l5) else (0 : Int32)) → q_At G X_M_rests (d + 1) 0 0 206 [some (.ref 159), some (.int p0), some (.int p1), some (.int p2), some (.int l4), some (.int l5), some (.int l6), some (.int l7), none, none, none] [.int vJ] (q_setI σ 159 0 (if l4 = 0 then (1 : Int32) else (if p2 < 0 then (0 : Int32) else (if l6 < 0 then (1 : Int32) else (0 : Int32))))) Q := by
          intro vJ eJ
          rw [eJ]
          clear eJ vJ
          exact q_ire o_M_rests_206 rfl h10
        refine q_if_le o_M_rests_188 (fun c14 => ?_) (fun c14 => ?_)
        · refine q_iload_n o_M_rests_195 rfl ?_
          refine q_if_ge o_M_rests_196 (fun c15 => ?_) (fun c15 => ?_)
          · refine q_iload o_M_rests_204 rfl ?_
            exact hJ _ (Eq.symm ((if_pos c14).trans (if_pos c15)))
          · refine q_iload o_M_rests_199 rfl ?_
            refine q_goto o_M_rests_201 ?_
            exact hJ _ (Eq.symm ((if_pos c14).trans (if_neg c15)))
        · refine q_iconst (v := 0) o_M_rests_191 (by decide) ?_
          refine q_goto o_M_rests_192 ?_
          exact hJ _ (Eq.symm (if_neg c14))
      refine q_if_eq o_M_rests_164 (fun c11 => ?_) (fun c11 => ?_)
      · refine q_iconst (v := 1) o_M_rests_180 (by decide) ?_
        exact hJ _ (Eq.symm (if_pos c11))
      · refine q_iload_n o_M_rests_167 rfl ?_
        refine q_if_lt o_M_rests_168 (fun c12 => ?_) (fun c12 => ?_)
        · refine q_iconst (v := 0) o_M_rests_176 (by decide) ?_
          refine q_goto o_M_rests_177 ?_
          exact hJ _ (Eq.symm ((if_neg c11).trans (if_pos c12)))
        · refine q_iload o_M_rests_171 rfl ?_
          refine q_if_lt o_M_rests_173 (fun c13 => ?_) (fun c13 => ?_)
          · refine q_iconst (v := 1) o_M_rests_180 (by decide) ?_
            exact hJ _ (Eq.symm (((if_neg c11).trans (if_neg c12)).trans (if_pos c13)))
          · refine q_iconst (v := 0) o_M_rests_176 (by decide) ?_
            refine q_goto o_M_rests_177 ?_
            exact hJ _ (Eq.symm (((if_neg c11).trans (if_neg c12)).trans (if_neg c13)))
    · have h16 := h8.2 c9
      refine q_iload o_M_rests_51 rfl ?_
      refine q_iconst (v := 2) o_M_rests_53 (by decide) ?_
      refine q_idiv o_M_rests_54 (by decide) ?_
      refine q2_ist (ls' := [some (.ref 159), some (.int p0), some (.int p1), some (.int p2), some (.int l4), some (.int l5), some (.int l6), some (.int l7), some (.int (l7 / 2)), none, none]) o_M_rests_55 (Nat.le_of_ble_eq_true rfl) rfl ?_
      refine q_iload o_M_rests_57 rfl ?_
      refine q_iconst (v := 2) o_M_rests_59 (by decide) ?_
      refine q_irem o_M_rests_60 (by decide) ?_
      refine q2_ist (ls' := [some (.ref 159), some (.int p0), some (.int p1), some (.int p2), some (.int l4), some (.int l5), some (.int l6), some (.int l7), some (.int (l7 / 2)), some (.int (l7 - l7 / 2 * 2)), none]) o_M_rests_61 (Nat.le_of_ble_eq_true rfl) rfl ?_
      refine q_aload_n o_M_rests_63 rfl ?_
      refine q_iload_n o_M_rests_64 rfl ?_
      refine q_iload_n o_M_rests_65 rfl ?_
      refine q_iconst (v := 1) o_M_rests_66 (by decide) ?_
      refine q_iload o_M_rests_67 rfl ?_
      refine q_isub o_M_rests_69 ?_
      refine q_iload o_M_rests_70 rfl ?_
      refine q2_callVi _ (a := 159) (As := [.int p0, .int p1, .int (1 - (l7 / 2)), .int (l7 - l7 / 2 * 2)]) (st := []) hs o_M_rests_72 k_M_453 rfl rfl (Nat.le_of_ble_eq_true rfl) h16 (fun x20 σ18 hs19 h17 => ?_)
      refine q_aload_n o_M_rests_75 rfl ?_
      refine q_iload_n o_M_rests_76 rfl ?_
      refine q_iload_n o_M_rests_77 rfl ?_
      refine q_iload o_M_rests_78 rfl ?_
      refine q_iload o_M_rests_80 rfl ?_
      refine q2_callVi _ (a := 159) (As := [.int p0, .int p1, .int (l7 / 2), .int (l7 - l7 / 2 * 2)]) (st := [.int x20]) hs19 o_M_rests_82 k_M_453 rfl rfl (Nat.le_of_ble_eq_true rfl) h17 (fun x24 σ22 hs23 h21 => ?_)
      refine q_icmp_gt o_M_rests_85 (fun c25 => ?_) (fun c25 => ?_)
      · have h26 := h21.1 c25
        refine q_iconst (v := 0) o_M_rests_117 (by decide) ?_
        refine q2_ist (ls' := [some (.ref 159), some (.int p0), some (.int p1), some (.int p2), some (.int l4), some (.int l5), some (.int l6), some (.int l7), some (.int (l7 / 2)), some (.int (l7 - l7 / 2 * 2)), some (.int 0)]) o_M_rests_118 (Nat.le_of_ble_eq_true rfl) rfl ?_
        refine q_iload o_M_rests_120 rfl ?_
        refine q_if_eq o_M_rests_122 (fun _ => ?_) (fun c27 => absurd c27 (by decide))
        refine q_iload o_M_rests_136 rfl ?_
        refine q2_ist (ls' := [some (.ref 159), some (.int p0), some (.int p1), some (.int p2), some (.int l4), some (.int l5), some (.int l6), some (.int l7), some (.int (l7 / 2)), some (.int (l7 - l7 / 2 * 2)), some (.int 0)]) o_M_rests_138 (Nat.le_of_ble_eq_true rfl) rfl ?_
        refine q_iload o_M_rests_140 rfl ?_
        refine q_iload o_M_rests_142 rfl ?_
        refine q_if_eq o_M_rests_144 (fun _ => ?_) (fun c28 => absurd c28 (by decide))
        refine q_iconst (v := 0) o_M_rests_151 (by decide) ?_
        refine q_iadd o_M_rests_152 ?_
        refine q2_ist (ls' := [some (.ref 159), some (.int p0), some (.int p1), some (.int p2), some (.int l4), some (.int (l5 + 0)), some (.int l6), some (.int l7), some (.int (l7 / 2)), some (.int (l7 - l7 / 2 * 2)), some (.int 0)]) o_M_rests_153 (Nat.le_of_ble_eq_true rfl) rfl ?_
        refine q2_inc (v := (l7 + 1)) (ls' := [some (.ref 159), some (.int p0), some (.int p1), some (.int p2), some (.int l4), some (.int (l5 + 0)), some (.int l6), some (.int (l7 + 1)), some (.int (l7 / 2)), some (.int (l7 - l7 / 2 * 2)), some (.int 0)]) o_M_rests_155 rfl rfl (Nat.le_of_ble_eq_true rfl) rfl ?_
        refine q_goto o_M_rests_158 ?_
        exact q_weak (ls' := [some (.ref 159), some (.int p0), some (.int p1), some (.int p2), some (.int l4), some (.int (l5 + 0)), some (.int l6), some (.int (l7 + 1)), none, none, none]) (And.intro rfl (And.intro rfl (And.intro rfl (And.intro rfl (And.intro rfl (And.intro rfl (And.intro rfl (And.intro rfl trivial)))))))) h26
      · have h29 := h21.2 c25
        refine q_aload_n o_M_rests_88 rfl ?_
        refine q_iload_n o_M_rests_89 rfl ?_
        refine q_iload_n o_M_rests_90 rfl ?_
        refine q_iconst (v := 1) o_M_rests_91 (by decide) ?_
        refine q_iload o_M_rests_92 rfl ?_
        refine q_isub o_M_rests_94 ?_
        refine q_iload o_M_rests_95 rfl ?_
        refine q2_callVi _ (a := 159) (As := [.int p1, .int p0, .int (1 - (l7 - l7 / 2 * 2)), .int (l7 / 2)]) (st := []) hs23 o_M_rests_97 k_M_453 rfl rfl (Nat.le_of_ble_eq_true rfl) h29 (fun x33 σ31 hs32 h30 => ?_)
        refine q_aload_n o_M_rests_100 rfl ?_
        refine q_iload_n o_M_rests_101 rfl ?_
        refine q_iload_n o_M_rests_102 rfl ?_
        refine q_iload o_M_rests_103 rfl ?_
        refine q_iload o_M_rests_105 rfl ?_
        refine q2_callVi _ (a := 159) (As := [.int p1, .int p0, .int (l7 - l7 / 2 * 2), .int (l7 / 2)]) (st := [.int x33]) hs32 o_M_rests_107 k_M_453 rfl rfl (Nat.le_of_ble_eq_true rfl) h30 (fun x37 σ35 hs36 h34 => ?_)
        have hJ : ∀ vJ : Int32, vJ = (if x37 < x33 then (0 : Int32) else (1 : Int32)) → q_At G X_M_rests (d + 1) 0 0 118 [some (.ref 159), some (.int p0), some (.int p1), some (.int p2), some (.int l4), some (.int l5), some (.int l6), some (.int l7), some (.int (l7 / 2)), some (.int (l7 - l7 / 2 * 2)), none] [.int vJ] σ35 Q := by
          intro vJ eJ
          rw [eJ]
          clear eJ vJ
          refine q2_ist (ls' := [some (.ref 159), some (.int p0), some (.int p1), some (.int p2), some (.int l4), some (.int l5), some (.int l6), some (.int l7), some (.int (l7 / 2)), some (.int (l7 - l7 / 2 * 2)), some (.int (if x37 < x33 then (0 : Int32) else (1 : Int32)))]) o_M_rests_118 (Nat.le_of_ble_eq_true rfl) rfl ?_
          refine q_iload o_M_rests_120 rfl ?_
          have hJ : ∀ vJ : Int32, vJ = (if (if x37 < x33 then (0 : Int32) else (1 : Int32)) = 0 then l6 else (if l5 = p2 then l7 else l6)) → q_At G X_M_rests (d + 1) 0 0 138 [some (.ref 159), some (.int p0), some (.int p1), some (.int p2), some (.int l4), some (.int l5), some (.int l6), some (.int l7), some (.int (l7 / 2)), some (.int (l7 - l7 / 2 * 2)), some (.int (if x37 < x33 then (0 : Int32) else (1 : Int32)))] [.int vJ] σ35 Q := by
            intro vJ eJ
            rw [eJ]
            clear eJ vJ
            refine q2_ist (ls' := [some (.ref 159), some (.int p0), some (.int p1), some (.int p2), some (.int l4), some (.int l5), some (.int (if (if x37 < x33 then (0 : Int32) else (1 : Int32)) = 0 then l6 else (if l5 = p2 then l7 else l6))), some (.int l7), some (.int (l7 / 2)), some (.int (l7 - l7 / 2 * 2)), some (.int (if x37 < x33 then (0 : Int32) else (1 : Int32)))]) o_M_rests_138 (Nat.le_of_ble_eq_true rfl) rfl ?_
            refine q_iload o_M_rests_140 rfl ?_
            refine q_iload o_M_rests_142 rfl ?_
            have hJ : ∀ vJ : Int32, vJ = (if (if x37 < x33 then (0 : Int32) else (1 : Int32)) = 0 then (0 : Int32) else (1 : Int32)) → q_At G X_M_rests (d + 1) 0 0 152 [some (.ref 159), some (.int p0), some (.int p1), some (.int p2), some (.int l4), some (.int l5), some (.int (if (if x37 < x33 then (0 : Int32) else (1 : Int32)) = 0 then l6 else (if l5 = p2 then l7 else l6))), some (.int l7), some (.int (l7 / 2)), some (.int (l7 - l7 / 2 * 2)), some (.int (if x37 < x33 then (0 : Int32) else (1 : Int32)))] [.int vJ, .int l5] σ35 Q := by
              intro vJ eJ
              rw [eJ]
              clear eJ vJ
              refine q_iadd o_M_rests_152 ?_
              refine q2_ist (ls' := [some (.ref 159), some (.int p0), some (.int p1), some (.int p2), some (.int l4), some (.int (l5 + (if (if x37 < x33 then (0 : Int32) else (1 : Int32)) = 0 then (0 : Int32) else (1 : Int32)))), some (.int (if (if x37 < x33 then (0 : Int32) else (1 : Int32)) = 0 then l6 else (if l5 = p2 then l7 else l6))), some (.int l7), some (.int (l7 / 2)), some (.int (l7 - l7 / 2 * 2)), some (.int (if x37 < x33 then (0 : Int32) else (1 : Int32)))]) o_M_rests_153 (Nat.le_of_ble_eq_true rfl) rfl ?_
              refine q2_inc (v := (l7 + 1)) (ls' := [some (.ref 159), some (.int p0), some (.int p1), some (.int p2), some (.int l4), some (.int (l5 + (if (if x37 < x33 then (0 : Int32) else (1 : Int32)) = 0 then (0 : Int32) else (1 : Int32)))), some (.int (if (if x37 < x33 then (0 : Int32) else (1 : Int32)) = 0 then l6 else (if l5 = p2 then l7 else l6))), some (.int (l7 + 1)), some (.int (l7 / 2)), some (.int (l7 - l7 / 2 * 2)), some (.int (if x37 < x33 then (0 : Int32) else (1 : Int32)))]) o_M_rests_155 rfl rfl (Nat.le_of_ble_eq_true rfl) rfl ?_
              refine q_goto o_M_rests_158 ?_
              exact q_weak (ls' := [some (.ref 159), some (.int p0), some (.int p1), some (.int p2), some (.int l4), some (.int (l5 + (if (if x37 < x33 then (0 : Int32) else (1 : Int32)) = 0 then (0 : Int32) else (1 : Int32)))), some (.int (if (if x37 < x33 then (0 : Int32) else (1 : Int32)) = 0 then l6 else (if l5 = p2 then l7 else l6))), some (.int (l7 + 1)), none, none, none]) (And.intro rfl (And.intro rfl (And.intro rfl (And.intro rfl (And.intro rfl (And.intro rfl (And.intro rfl (And.intro rfl trivial)))))))) h34
            refine q_if_eq o_M_rests_144 (fun c41 => ?_) (fun c41 => ?_)
            · refine q_iconst (v := 0) o_M_rests_151 (by decide) ?_
              exact hJ _ (Eq.symm (if_pos c41))
            · refine q_iconst (v := 1) o_M_rests_147 (by decide) ?_
              refine q_goto o_M_rests_148 ?_
              exact hJ _ (Eq.symm (if_neg c41))
          refine q_if_eq o_M_rests_122 (fun c39 => ?_) (fun c39 => ?_)
          · refine q_iload o_M_rests_136 rfl ?_
            exact hJ _ (Eq.symm (if_pos c39))
          · refine q_iload o_M_rests_125 rfl ?_
            refine q_iload_n o_M_rests_127 rfl ?_
            refine q_icmp_ne o_M_rests_128 (fun c40 => ?_) (fun c40 => ?_)
            · refine q_iload o_M_rests_136 rfl ?_
              exact hJ _ (Eq.symm ((if_neg c39).trans (if_neg c40)))
            · refine q_iload o_M_rests_131 rfl ?_
              refine q_goto o_M_rests_133 ?_
              exact hJ _ (Eq.symm ((if_neg c39).trans (if_pos c40)))
        refine q_icmp_gt o_M_rests_110 (fun c38 => ?_) (fun c38 => ?_)
        · refine q_iconst (v := 0) o_M_rests_117 (by decide) ?_
          exact hJ _ (Eq.symm (if_pos c38))
        · refine q_iconst (v := 1) o_M_rests_113 (by decide) ?_
          refine q_goto o_M_rests_114 ?_
          exact hJ _ (Eq.symm (if_neg c38))

set_option maxRecDepth 20000 in
theorem v_M_tale_0 {G : q_G} {d : Nat} {σ : q_S} {Q : Option Value → q_S → Prop} {p0 : Int32} {p1 : Int32} {p2 : Int32}  (hs : q_Sh σ) (h : q_Call G d 0 0 X_M_areTwo [.ref 159, .int p0, .int p1] (q_setI σ 159 0 0) (q_ri (fun x4 σ2 => ((x4 = 0 → Q (some (.int 0)) σ2) ∧ (¬ x4 = 0 → ((¬ (q_I σ2 175 50) = 10 → (∃ k15, (51 + (3 * (q_I σ2 175 50))) = nI k15 ∧ k15 < 1886 ∧ (∃ k17, ((51 + (3 * (q_I σ2 175 50))) + 1) = nI k17 ∧ k17 < 1886 ∧ (∃ k20, ((51 + (3 * (q_I σ2 175 50))) + 2) = nI k20 ∧ k20 < 1886 ∧ Q (some (.int 1)) (q_setI (q_setI (q_setI (q_setI σ2 175 k15 p0) 175 k17 p1) 175 k20 (if p2 = 0 then (0 : Int32) else (1 : Int32))) 175 50 ((q_I (q_setI (q_setI (q_setI σ2 175 k15 p0) 175 k17 p1) 175 k20 (if p2 = 0 then (0 : Int32) else (1 : Int32))) 175 50) + 1)))))) ∧ ((q_I σ2 175 50) = 10 → Q (some (.int 0)) σ2))))))) : q_At G X_M_tale (d + 1) 0 0 0 [some (.ref 159), some (.int p0), some (.int p1), some (.int p2), none] [] σ Q := by
  refine q_aload_n o_M_tale_0 rfl ?_
  refine q_iconst (v := 0) o_M_tale_1 (by decide) ?_
  refine q2_putI hs o_M_tale_2 fp_M_1 rfl rfl rfl ?_
  refine q_aload_n o_M_tale_5 rfl ?_
  refine q_iload_n o_M_tale_6 rfl ?_
  refine q_iload_n o_M_tale_7 rfl ?_
  refine q2_callVi _ (a := 159) (As := [.int p0, .int p1]) (st := []) hs o_M_tale_8 k_M_362 rfl rfl (Nat.le_of_ble_eq_true rfl) h (fun x4 σ2 hs3 h1 => ?_)
  refine q_if_eq o_M_tale_11 (fun c5 => ?_) (fun c5 => ?_)
  · have h6 := h1.1 c5
    refine q_iconst (v := 0) o_M_tale_26 (by decide) ?_
    exact q_zre o_M_tale_27 rfl rfl h6
  · have h7 := h1.2 c5
    refine q_aload_n o_M_tale_14 rfl ?_
    refine q2_getR hs3 o_M_tale_15 f_M_133 rfl (fz_159_24 hs3) ?_
    refine q_bipush (v := 50) o_M_tale_18 (by decide) ?_
    refine q2_iald (i := 50) hs3 o_M_tale_20 rfl rfl (by decide) (by decide) ?_
    refine q_bipush (v := 10) o_M_tale_21 (by decide) ?_
    refine q_icmp_ne o_M_tale_23 (fun c10 => ?_) (fun c10 => ?_)
    · have h11 := h7.1 c10
      refine q_bipush (v := 51) o_M_tale_28 (by decide) ?_
      refine q_iconst (v := 3) o_M_tale_30 (by decide) ?_
      refine q_aload_n o_M_tale_31 rfl ?_
      refine q2_getR hs3 o_M_tale_32 f_M_133 rfl (fz_159_24 hs3) ?_
      refine q_bipush (v := 50) o_M_tale_35 (by decide) ?_
      refine q2_iald (i := 50) hs3 o_M_tale_37 rfl rfl (by decide) (by decide) ?_
      refine q_imul o_M_tale_38 ?_
      refine q_iadd o_M_tale_39 ?_
      refine q2_ist (ls' := [some (.ref 159), some (.int p0), some (.int p1), some (.int p2), some (.int (51 + (3 * (q_I σ2 175 50))))]) o_M_tale_40 (Nat.le_of_ble_eq_true rfl) rfl ?_
      refine q_aload_n o_M_tale_42 rfl ?_
      refine q2_getR hs3 o_M_tale_43 f_M_133 rfl (fz_159_24 hs3) ?_
      refine q_iload o_M_tale_46 rfl ?_
      refine q_iload_n o_M_tale_48 rfl ?_
      obtain ⟨k15, eh14, bh14, h14⟩ := h11
      refine q2_iast hs3 o_M_tale_49 rfl eh14 bh14 (by decide) ?_
      refine q_aload_n o_M_tale_50 rfl ?_
      refine q2_getR hs3 o_M_tale_51 f_M_133 rfl (fz_159_24 hs3) ?_
      refine q_iload o_M_tale_54 rfl ?_
      refine q_iconst (v := 1) o_M_tale_56 (by decide) ?_
      refine q_iadd o_M_tale_57 ?_
      refine q_iload_n o_M_tale_58 rfl ?_
      obtain ⟨k17, eh16, bh16, h16⟩ := h14
      refine q2_iast hs3 o_M_tale_59 rfl eh16 bh16 (by decide) ?_
      refine q_aload_n o_M_tale_60 rfl ?_
      refine q2_getR hs3 o_M_tale_61 f_M_133 rfl (fz_159_24 hs3) ?_
      refine q_iload o_M_tale_64 rfl ?_
      refine q_iconst (v := 2) o_M_tale_66 (by decide) ?_
      refine q_iadd o_M_tale_67 ?_
      refine q_iload_n o_M_tale_68 rfl ?_
      have hJ : ∀ vJ : Int32, vJ = (if p2 = 0 then (0 : Int32) else (1 : Int32)) → q_At G X_M_tale (d + 1) 0 0 77 [some (.ref 159), some (.int p0), some (.int p1), some (.int p2), some (.int (51 + (3 * (q_I σ2 175 50))))] [.int vJ, .int ((51 + (3 * (q_I σ2 175 50))) + 2), .ref 175] (q_setI (q_setI σ2 175 k15 p0) 175 k17 p1) Q := by
        intro vJ eJ
        rw [eJ]
        clear eJ vJ
        obtain ⟨k20, eh19, bh19, h19⟩ := h16
        refine q2_iast hs3 o_M_tale_77 rfl eh19 bh19 (by decide) ?_
        refine q_aload_n o_M_tale_78 rfl ?_
        refine q2_getR hs3 o_M_tale_79 f_M_133 rfl (fz_159_24 hs3) ?_
        refine q_bipush (v := 50) o_M_tale_82 (by decide) ?_
        refine q_dup2 o_M_tale_84 rfl rfl ?_
        refine q2_iald (i := 50) hs3 o_M_tale_85 rfl rfl (by decide) (by decide) ?_
        refine q_iconst (v := 1) o_M_tale_86 (by decide) ?_
        refine q_iadd o_M_tale_87 ?_
        refine q2_iast (i := 50) hs3 o_M_tale_88 rfl rfl (by decide) (by decide) ?_
        refine q_iconst (v := 1) o_M_tale_89 (by decide) ?_
        exact q_zre o_M_tale_90 rfl rfl h19
      refine q_if_eq o_M_tale_69 (fun c18 => ?_) (fun c18 => ?_)
      · refine q_iconst (v := 0) o_M_tale_76 (by decide) ?_
        exact hJ _ (Eq.symm (if_pos c18))
      · refine q_iconst (v := 1) o_M_tale_72 (by decide) ?_
        refine q_goto o_M_tale_73 ?_
        exact hJ _ (Eq.symm (if_neg c18))
    · have h25 := h7.2 c10
      refine q_iconst (v := 0) o_M_tale_26 (by decide) ?_
      exact q_zre o_M_tale_27 rfl rfl h25

set_option maxRecDepth 20000 in
theorem v_M_isAsTold_0 {G : q_G} {d : Nat} {σ : q_S} {Q : Option Value → q_S → Prop}   (hs : q_Sh σ) (h : q_At G X_M_isAsTold (d + 1) 0 0 4 [some (.ref 159), some (.int 1), some (.int 0), none] [] σ Q) : q_At G X_M_isAsTold (d + 1) 0 0 0 [some (.ref 159), none, none, none] [] σ Q := by
  refine q_iconst (v := 1) o_M_isAsTold_0 (by decide) ?_
  refine q2_istn (ls' := [some (.ref 159), some (.int 1), none, none]) o_M_isAsTold_1 (Nat.le_of_ble_eq_true rfl) rfl ?_
  refine q_iconst (v := 0) o_M_isAsTold_2 (by decide) ?_
  refine q2_istn (ls' := [some (.ref 159), some (.int 1), some (.int 0), none]) o_M_isAsTold_3 (Nat.le_of_ble_eq_true rfl) rfl ?_
  exact h

set_option maxRecDepth 20000 in
theorem v_M_isAsTold_4 {G : q_G} {d : Nat} {σ : q_S} {Q : Option Value → q_S → Prop} {l1 : Int32} {l2 : Int32}  (hs : q_Sh σ) (h : (((q_I σ 175 50) ≤ l2 → (narrow .boolean (.int l1) = .int l1 ∧ Q (some (.int l1)) σ)) ∧ (¬ (q_I σ 175 50) ≤ l2 → ((l1 = 0 → (narrow .boolean (.int l1) = .int l1 ∧ Q (some (.int l1)) σ)) ∧ (¬ l1 = 0 → (∃ k10, (51 + (3 * l2)) = nI k10 ∧ k10 < 1886 ∧ (∃ k12, ((51 + (3 * l2)) + 1) = nI k12 ∧ k12 < 1886 ∧ q_Call G d 0 0 X_M_wallBy [.ref 159, .int 1804, .int (q_I σ 175 k10), .int (q_I σ 175 k12)] σ (q_ri (fun x16 σ14 => (∃ k19, ((51 + (3 * l2)) + 2) = nI k19 ∧ k19 < 1886 ∧ q_At G X_M_isAsTold (d + 1) 0 0 4 [some (.ref 159), some (.int (if (if x16 ≤ 0 then (0 : Int32) else (1 : Int32)) = (if (q_I σ14 175 k19) = 1 then (1 : Int32) else (0 : Int32)) then (1 : Int32) else (0 : Int32))), some (.int (l2 + 1)), none] [] σ14 Q)))))))))) : q_At G X_M_isAsTold (d + 1) 0 0 4 [some (.ref 159), some (.int l1), some (.int l2), none] [] σ Q := by
  refine q_iload_n o_M_isAsTold_4 rfl ?_
  refine q_aload_n o_M_isAsTold_5 rfl ?_
  refine q2_getR hs o_M_isAsTold_6 f_M_133 rfl (fz_159_24 hs) ?_
  refine q_bipush (v := 50) o_M_isAsTold_9 (by decide) ?_
  refine q2_iald (i := 50) hs o_M_isAsTold_11 rfl rfl (by decide) (by decide) ?_
  refine q_icmp_ge o_M_isAsTold_12 (fun c3 => ?_) (fun c3 => ?_)
  · have h4 := h.1 c3
    refine q_iload_n o_M_isAsTold_87 rfl ?_
    exact q_zre o_M_isAsTold_88 rfl h4.1 h4.2
  · have h5 := h.2 c3
    refine q_iload_n o_M_isAsTold_15 rfl ?_
    refine q_if_eq o_M_isAsTold_16 (fun c6 => ?_) (fun c6 => ?_)
    · have h7 := h5.1 c6
      refine q_iload_n o_M_isAsTold_87 rfl ?_
      exact q_zre o_M_isAsTold_88 rfl h7.1 h7.2
    · have h8 := h5.2 c6
      refine q_bipush (v := 51) o_M_isAsTold_19 (by decide) ?_
      refine q_iconst (v := 3) o_M_isAsTold_21 (by decide) ?_
      refine q_iload_n o_M_isAsTold_22 rfl ?_
      refine q_imul o_M_isAsTold_23 ?_
      refine q_iadd o_M_isAsTold_24 ?_
      refine q2_istn (ls' := [some (.ref 159), some (.int l1), some (.int l2), some (.int (51 + (3 * l2)))]) o_M_isAsTold_25 (Nat.le_of_ble_eq_true rfl) rfl ?_
      refine q_aload_n o_M_isAsTold_26 rfl ?_
      refine q_sipush (v := 1804) o_M_isAsTold_27 (by decide) ?_
      refine q_aload_n o_M_isAsTold_30 rfl ?_
      refine q2_getR hs o_M_isAsTold_31 f_M_133 rfl (fz_159_24 hs) ?_
      refine q_iload_n o_M_isAsTold_34 rfl ?_
      obtain ⟨k10, eh9, bh9, h9⟩ := h8
      refine q2_iald hs o_M_isAsTold_35 rfl eh9 bh9 (by decide) ?_
      refine q_aload_n o_M_isAsTold_36 rfl ?_
      refine q2_getR hs o_M_isAsTold_37 f_M_133 rfl (fz_159_24 hs) ?_
      refine q_iload_n o_M_isAsTold_40 rfl ?_
      refine q_iconst (v := 1) o_M_isAsTold_41 (by decide) ?_
      refine q_iadd o_M_isAsTold_42 ?_
      obtain ⟨k12, eh11, bh11, h11⟩ := h9
      refine q2_iald hs o_M_isAsTold_43 rfl eh11 bh11 (by decide) ?_
      refine q2_callVi _ (a := 159) (As := [.int 1804, .int (q_I σ 175 k10), .int (q_I σ 175 k12)]) (st := []) hs o_M_isAsTold_44 k_M_344 rfl rfl (Nat.le_of_ble_eq_true rfl) h11 (fun x16 σ14 hs15 h13 => ?_)
      have hJ : ∀ vJ : Int32, vJ = (if x16 ≤ 0 then (0 : Int32) else (1 : Int32)) → q_At G X_M_isAsTold (d + 1) 0 0 55 [some (.ref 159), some (.int l1), some (.int l2), some (.int (51 + (3 * l2)))] [.int vJ] σ14 Q := by
        intro vJ eJ
        rw [eJ]
        clear eJ vJ
        refine q_aload_n o_M_isAsTold_55 rfl ?_
        refine q2_getR hs15 o_M_isAsTold_56 f_M_133 rfl (fz_159_24 hs15) ?_
        refine q_iload_n o_M_isAsTold_59 rfl ?_
        refine q_iconst (v := 2) o_M_isAsTold_60 (by decide) ?_
        refine q_iadd o_M_isAsTold_61 ?_
        obtain ⟨k19, eh18, bh18, h18⟩ := h13
        refine q2_iald hs15 o_M_isAsTold_62 rfl eh18 bh18 (by decide) ?_
        refine q_iconst (v := 1) o_M_isAsTold_63 (by decide) ?_
        have hJ : ∀ vJ : Int32, vJ = (if (q_I σ14 175 k19) = 1 then (1 : Int32) else (0 : Int32)) → q_At G X_M_isAsTold (d + 1) 0 0 72 [some (.ref 159), some (.int l1), some (.int l2), some (.int (51 + (3 * l2)))] [.int vJ, .int (if x16 ≤ 0 then (0 : Int32) else (1 : Int32))] σ14 Q := by
          intro vJ eJ
          rw [eJ]
          clear eJ vJ
          have hJ : ∀ vJ : Int32, vJ = (if (if x16 ≤ 0 then (0 : Int32) else (1 : Int32)) = (if (q_I σ14 175 k19) = 1 then (1 : Int32) else (0 : Int32)) then (1 : Int32) else (0 : Int32)) → q_At G X_M_isAsTold (d + 1) 0 0 80 [some (.ref 159), some (.int l1), some (.int l2), some (.int (51 + (3 * l2)))] [.int vJ] σ14 Q := by
            intro vJ eJ
            rw [eJ]
            clear eJ vJ
            refine q2_istn (ls' := [some (.ref 159), some (.int (if (if x16 ≤ 0 then (0 : Int32) else (1 : Int32)) = (if (q_I σ14 175 k19) = 1 then (1 : Int32) else (0 : Int32)) then (1 : Int32) else (0 : Int32))), some (.int l2), some (.int (51 + (3 * l2)))]) o_M_isAsTold_80 (Nat.le_of_ble_eq_true rfl) rfl ?_
            refine q2_inc (v := (l2 + 1)) (ls' := [some (.ref 159), some (.int (if (if x16 ≤ 0 then (0 : Int32) else (1 : Int32)) = (if (q_I σ14 175 k19) = 1 then (1 : Int32) else (0 : Int32)) then (1 : Int32) else (0 : Int32))), some (.int (l2 + 1)), some (.int (51 + (3 * l2)))]) o_M_isAsTold_81 rfl rfl (Nat.le_of_ble_eq_true rfl) rfl ?_
            refine q_goto o_M_isAsTold_84 ?_
            exact q_weak (ls' := [some (.ref 159), some (.int (if (if x16 ≤ 0 then (0 : Int32) else (1 : Int32)) = (if (q_I σ14 175 k19) = 1 then (1 : Int32) else (0 : Int32)) then (1 : Int32) else (0 : Int32))), some (.int (l2 + 1)), none]) (And.intro rfl (And.intro rfl (And.intro rfl trivial))) h18
          refine q_icmp_ne o_M_isAsTold_72 (fun c21 => ?_) (fun c21 => ?_)
          · refine q_iconst (v := 0) o_M_isAsTold_79 (by decide) ?_
            exact hJ _ (Eq.symm (if_neg c21))
          · refine q_iconst (v := 1) o_M_isAsTold_75 (by decide) ?_
            refine q_goto o_M_isAsTold_76 ?_
            exact hJ _ (Eq.symm (if_pos c21))
        refine q_icmp_ne o_M_isAsTold_64 (fun c20 => ?_) (fun c20 => ?_)
        · refine q_iconst (v := 0) o_M_isAsTold_71 (by decide) ?_
          exact hJ _ (Eq.symm (if_neg c20))
        · refine q_iconst (v := 1) o_M_isAsTold_67 (by decide) ?_
          refine q_goto o_M_isAsTold_68 ?_
          exact hJ _ (Eq.symm (if_pos c20))
      refine q_if_le o_M_isAsTold_47 (fun c17 => ?_) (fun c17 => ?_)
      · refine q_iconst (v := 0) o_M_isAsTold_54 (by decide) ?_
        exact hJ _ (Eq.symm (if_pos c17))
      · refine q_iconst (v := 1) o_M_isAsTold_50 (by decide) ?_
        refine q_goto o_M_isAsTold_51 ?_
        exact hJ _ (Eq.symm (if_neg c17))

set_option maxRecDepth 20000 in
theorem v_M_findFitting_0 {G : q_G} {d : Nat} {σ : q_S} {Q : Option Value → q_S → Prop}   (hs : q_Sh σ) (h : q_Call G d 0 0 X_M_findWays [.ref 159] σ (q_rv (fun σ2 => q_At G X_M_findFitting (d + 1) 0 0 11 [some (.ref 159), some (.int 0)] [] (q_setI σ2 159 36 0) Q))) : q_At G X_M_findFitting (d + 1) 0 0 0 [some (.ref 159), none] [] σ Q := by
  refine q_aload_n o_M_findFitting_0 rfl ?_
  refine q2_callVv _ (a := 159) (As := []) (st := []) hs o_M_findFitting_1 k_M_425 rfl rfl (Nat.le_of_ble_eq_true rfl) h (fun σ2 hs3 h1 => ?_)
  refine q_aload_n o_M_findFitting_4 rfl ?_
  refine q_iconst (v := 0) o_M_findFitting_5 (by decide) ?_
  refine q2_putI hs3 o_M_findFitting_6 fp_M_457 rfl rfl rfl ?_
  refine q_iconst (v := 0) o_M_findFitting_9 (by decide) ?_
  refine q2_istn (ls' := [some (.ref 159), some (.int 0)]) o_M_findFitting_10 (Nat.le_of_ble_eq_true rfl) rfl ?_
  exact h1

set_option maxRecDepth 20000 in
theorem v_M_findFitting_11 {G : q_G} {d : Nat} {σ : q_S} {Q : Option Value → q_S → Prop} {l1 : Int32}  (hs : q_Sh σ) (h : ((36 ≤ l1 → q_At G X_M_findFitting (d + 1) 0 0 32 [some (.ref 159), some (.int 0)] [] σ Q) ∧ (¬ 36 ≤ l1 → (∃ k5, l1 = nI k5 ∧ k5 < 36 ∧ q_At G X_M_findFitting (d + 1) 0 0 11 [some (.ref 159), some (.int (l1 + 1))] [] (q_setI σ 181 k5 0) Q)))) : q_At G X_M_findFitting (d + 1) 0 0 11 [some (.ref 159), some (.int l1)] [] σ Q := by
  refine q_iload_n o_M_findFitting_11 rfl ?_
  refine q_bipush (v := 36) o_M_findFitting_12 (by decide) ?_
  refine q_icmp_ge o_M_findFitting_14 (fun c1 => ?_) (fun c1 => ?_)
  · have h2 := h.1 c1
    refine q_iconst (v := 0) o_M_findFitting_30 (by decide) ?_
    refine q2_istn (ls' := [some (.ref 159), some (.int 0)]) o_M_findFitting_31 (Nat.le_of_ble_eq_true rfl) rfl ?_
    exact h2
  · have h3 := h.2 c1
    refine q_aload_n o_M_findFitting_17 rfl ?_
    refine q2_getR hs o_M_findFitting_18 f_M_152 rfl (fz_159_35 hs) ?_
    refine q_iload_n o_M_findFitting_21 rfl ?_
    refine q_iconst (v := 0) o_M_findFitting_22 (by decide) ?_
    obtain ⟨k5, eh4, bh4, h4⟩ := h3
    refine q2_iast hs o_M_findFitting_23 rfl eh4 bh4 (by decide) ?_
    refine q2_inc (v := (l1 + 1)) (ls' := [some (.ref 159), some (.int (l1 + 1))]) o_M_findFitting_24 rfl rfl (Nat.le_of_ble_eq_true rfl) rfl ?_
    refine q_goto o_M_findFitting_27 ?_
    exact h4

set_option maxRecDepth 20000 in
theorem v_M_findFitting_32 {G : q_G} {d : Nat} {σ : q_S} {Q : Option Value → q_S → Prop} {l1 : Int32}  (hs : q_Sh σ) (h : (((q_I σ 159 31) ≤ l1 → Q none σ) ∧ (¬ (q_I σ 159 31) ≤ l1 → q_Call G d 0 0 X_M_laysWay [.ref 159, .int l1] σ (q_rv (fun σ5 => q_Call G d 0 0 X_M_isAsTold [.ref 159] σ5 (q_ri (fun x10 σ8 => ((x10 = 0 → q_At G X_M_findFitting (d + 1) 0 0 32 [some (.ref 159), some (.int (l1 + 1))] [] σ8 Q) ∧ (¬ x10 = 0 → q_Call G d 0 0 X_M_countsNear [.ref 159] (q_setI σ8 159 36 ((q_I σ8 159 36) + 1)) (q_rv (fun σ15 => q_At G X_M_findFitting (d + 1) 0 0 32 [some (.ref 159), some (.int (l1 + 1))] [] σ15 Q))))))))))) : q_At G X_M_findFitting (d + 1) 0 0 32 [some (.ref 159), some (.int l1)] [] σ Q := by
  refine q_iload_n o_M_findFitting_32 rfl ?_
  refine q_aload_n o_M_findFitting_33 rfl ?_
  refine q2_getI hs o_M_findFitting_34 f_M_416 rfl ?_
  refine q_icmp_ge o_M_findFitting_37 (fun c1 => ?_) (fun c1 => ?_)
  · have h2 := h.1 c1
    exact q_vre o_M_findFitting_72 rfl h2
  · have h3 := h.2 c1
    refine q_aload_n o_M_findFitting_40 rfl ?_
    refine q_iload_n o_M_findFitting_41 rfl ?_
    refine q2_callVv _ (a := 159) (As := [.int l1]) (st := []) hs o_M_findFitting_42 k_M_422 rfl rfl (Nat.le_of_ble_eq_true rfl) h3 (fun σ5 hs6 h4 => ?_)
    refine q_aload_n o_M_findFitting_45 rfl ?_
    refine q2_callVi _ (a := 159) (As := []) (st := []) hs6 o_M_findFitting_46 k_M_460 rfl rfl (Nat.le_of_ble_eq_true rfl) h4 (fun x10 σ8 hs9 h7 => ?_)
    refine q_if_eq o_M_findFitting_49 (fun c11 => ?_) (fun c11 => ?_)
    · have h12 := h7.1 c11
      refine q2_inc (v := (l1 + 1)) (ls' := [some (.ref 159), some (.int (l1 + 1))]) o_M_findFitting_66 rfl rfl (Nat.le_of_ble_eq_true rfl) rfl ?_
      refine q_goto o_M_findFitting_69 ?_
      exact h12
    · have h13 := h7.2 c11
      refine q_aload_n o_M_findFitting_52 rfl ?_
      refine q_dup o_M_findFitting_53 rfl ?_
      refine q2_getI hs9 o_M_findFitting_54 f_M_457 rfl ?_
      refine q_iconst (v := 1) o_M_findFitting_57 (by decide) ?_
      refine q_iadd o_M_findFitting_58 ?_
      refine q2_putI hs9 o_M_findFitting_59 fp_M_457 rfl rfl rfl ?_
      refine q_aload_n o_M_findFitting_62 rfl ?_
      refine q2_callVv _ (a := 159) (As := []) (st := []) hs9 o_M_findFitting_63 k_M_463 rfl rfl (Nat.le_of_ble_eq_true rfl) h13 (fun σ15 hs16 h14 => ?_)
      refine q2_inc (v := (l1 + 1)) (ls' := [some (.ref 159), some (.int (l1 + 1))]) o_M_findFitting_66 rfl rfl (Nat.le_of_ble_eq_true rfl) rfl ?_
      refine q_goto o_M_findFitting_69 ?_
      exact h14

set_option maxRecDepth 20000 in
theorem v_M_countsNear_0 {G : q_G} {d : Nat} {σ : q_S} {Q : Option Value → q_S → Prop}   (hs : q_Sh σ) (h : q_At G X_M_countsNear (d + 1) 0 0 2 [some (.ref 159), some (.int 0), none] [] σ Q) : q_At G X_M_countsNear (d + 1) 0 0 0 [some (.ref 159), none, none] [] σ Q := by
  refine q_iconst (v := 0) o_M_countsNear_0 (by decide) ?_
  refine q2_istn (ls' := [some (.ref 159), some (.int 0), none]) o_M_countsNear_1 (Nat.le_of_ble_eq_true rfl) rfl ?_
  exact h

set_option maxRecDepth 20000 in
theorem v_M_countsNear_2 {G : q_G} {d : Nat} {σ : q_S} {Q : Option Value → q_S → Prop} {l1 : Int32}  (hs : q_Sh σ) (h : (((q_I σ 165 1) ≤ l1 → Q none σ) ∧ (¬ (q_I σ 165 1) ≤ l1 → q_At G X_M_countsNear (d + 1) 0 0 12 [some (.ref 159), some (.int l1), some (.int 0)] [] σ Q))) : q_At G X_M_countsNear (d + 1) 0 0 2 [some (.ref 159), some (.int l1), none] [] σ Q := by
  refine q_iload_n o_M_countsNear_2 rfl ?_
  refine q_aload_n o_M_countsNear_3 rfl ?_
  refine q2_M_families hs o_M_countsNear_4 k_M_309 (Nat.le_of_ble_eq_true rfl) ?_
  refine q_icmp_ge o_M_countsNear_7 (fun c1 => ?_) (fun c1 => ?_)
  · have h2 := h.1 c1
    exact q_vre o_M_countsNear_68 rfl h2
  · have h3 := h.2 c1
    refine q_iconst (v := 0) o_M_countsNear_10 (by decide) ?_
    refine q2_istn (ls' := [some (.ref 159), some (.int l1), some (.int 0)]) o_M_countsNear_11 (Nat.le_of_ble_eq_true rfl) rfl ?_
    exact h3

set_option maxRecDepth 20000 in
theorem v_M_countsNear_12 {G : q_G} {d : Nat} {σ : q_S} {Q : Option Value → q_S → Prop} {l1 : Int32} {l2 : Int32}  (hs : q_Sh σ) (h : (((q_I σ 165 1) ≤ l2 → q_At G X_M_countsNear (d + 1) 0 0 2 [some (.ref 159), some (.int (l1 + 1)), none] [] σ Q) ∧ (¬ (q_I σ 165 1) ≤ l2 → (∃ k5, ((6 * l1) + l2) = nI k5 ∧ k5 < 36 ∧ ((l2 = l1 → (∃ k9, ((6 * l1) + l2) = nI k9 ∧ k9 < 36 ∧ q_At G X_M_countsNear (d + 1) 0 0 12 [some (.ref 159), some (.int l1), some (.int (l2 + 1))] [] (q_setI σ 181 k9 ((q_I σ 181 k5) + 0)) Q)) ∧ (¬ l2 = l1 → q_Call G d 0 0 X_M_wallBy [.ref 159, .int 1804, .int l1, .int l2] σ (q_ri (fun x14 σ12 => (∃ k17, ((6 * l1) + l2) = nI k17 ∧ k17 < 36 ∧ q_At G X_M_countsNear (d + 1) 0 0 12 [some (.ref 159), some (.int l1), some (.int (l2 + 1))] [] (q_setI σ12 181 k17 ((q_I σ 181 k5) + (if x14 ≤ 0 then (0 : Int32) else (1 : Int32)))) Q))))))))) : q_At G X_M_countsNear (d + 1) 0 0 12 [some (.ref 159), some (.int l1), some (.int l2)] [] σ Q := by
  refine q_iload_n o_M_countsNear_12 rfl ?_
  refine q_aload_n o_M_countsNear_13 rfl ?_
  refine q2_M_families hs o_M_countsNear_14 k_M_309 (Nat.le_of_ble_eq_true rfl) ?_
  refine q_icmp_ge o_M_countsNear_17 (fun c1 => ?_) (fun c1 => ?_)
  · have h2 := h.1 c1
    refine q2_inc (v := (l1 + 1)) (ls' := [some (.ref 159), some (.int (l1 + 1)), some (.int l2)]) o_M_countsNear_62 rfl rfl (Nat.le_of_ble_eq_true rfl) rfl ?_
    refine q_goto o_M_countsNear_65 ?_
    exact q_weak (ls' := [some (.ref 159), some (.int (l1 + 1)), none]) (And.intro rfl (And.intro rfl trivial)) h2
  · have h3 := h.2 c1
    refine q_aload_n o_M_countsNear_20 rfl ?_
    refine q2_getR hs o_M_countsNear_21 f_M_152 rfl (fz_159_35 hs) ?_
    refine q_bipush (v := 6) o_M_countsNear_24 (by decide) ?_
    refine q_iload_n o_M_countsNear_26 rfl ?_
    refine q_imul o_M_countsNear_27 ?_
    refine q_iload_n o_M_countsNear_28 rfl ?_
    refine q_iadd o_M_countsNear_29 ?_
    refine q_dup2 o_M_countsNear_30 rfl rfl ?_
    obtain ⟨k5, eh4, bh4, h4⟩ := h3
    refine q2_iald hs o_M_countsNear_31 rfl eh4 bh4 (by decide) ?_
    refine q_iload_n o_M_countsNear_32 rfl ?_
    refine q_iload_n o_M_countsNear_33 rfl ?_
    refine q_icmp_eq o_M_countsNear_34 (fun c6 => ?_) (fun c6 => ?_)
    · have h7 := h4.1 c6
      refine q_iconst (v := 0) o_M_countsNear_53 (by decide) ?_
      refine q_iadd o_M_countsNear_54 ?_
      obtain ⟨k9, eh8, bh8, h8⟩ := h7
      refine q2_iast hs o_M_countsNear_55 rfl eh8 bh8 (by decide) ?_
      refine q2_inc (v := (l2 + 1)) (ls' := [some (.ref 159), some (.int l1), some (.int (l2 + 1))]) o_M_countsNear_56 rfl rfl (Nat.le_of_ble_eq_true rfl) rfl ?_
      refine q_goto o_M_countsNear_59 ?_
      exact h8
    · have h10 := h4.2 c6
      refine q_aload_n o_M_countsNear_37 rfl ?_
      refine q_sipush (v := 1804) o_M_countsNear_38 (by decide) ?_
      refine q_iload_n o_M_countsNear_41 rfl ?_
      refine q_iload_n o_M_countsNear_42 rfl ?_
      refine q2_callVi _ (a := 159) (As := [.int 1804, .int l1, .int l2]) (st := [.int (q_I σ 181 k5), .int ((6 * l1) + l2), .ref 181]) hs o_M_countsNear_43 k_M_344 rfl rfl (Nat.le_of_ble_eq_true rfl) h10 (fun x14 σ12 hs13 h11 => ?_)
      have hJ : ∀ vJ : Int32, vJ = (if x14 ≤ 0 then (0 : Int32) else (1 : Int32)) → q_At G X_M_countsNear (d + 1) 0 0 54 [some (.ref 159), some (.int l1), some (.int l2)] [.int vJ, .int (q_I σ 181 k5), .int ((6 * l1) + l2), .ref 181] σ12 Q := by
        intro vJ eJ
        rw [eJ]
        clear eJ vJ
        refine q_iadd o_M_countsNear_54 ?_
        obtain ⟨k17, eh16, bh16, h16⟩ := h11
        refine q2_iast hs13 o_M_countsNear_55 rfl eh16 bh16 (by decide) ?_
        refine q2_inc (v := (l2 + 1)) (ls' := [some (.ref 159), some (.int l1), some (.int (l2 + 1))]) o_M_countsNear_56 rfl rfl (Nat.le_of_ble_eq_true rfl) rfl ?_
        refine q_goto o_M_countsNear_59 ?_
        exact h16
      refine q_if_le o_M_countsNear_46 (fun c15 => ?_) (fun c15 => ?_)
      · refine q_iconst (v := 0) o_M_countsNear_53 (by decide) ?_
        exact hJ _ (Eq.symm (if_pos c15))
      · refine q_iconst (v := 1) o_M_countsNear_49 (by decide) ?_
        refine q_goto o_M_countsNear_50 ?_
        exact hJ _ (Eq.symm (if_neg c15))

set_option maxRecDepth 20000 in
theorem v_M_how_0 {G : q_G} {d : Nat} {σ : q_S} {Q : Option Value → q_S → Prop}   (hs : q_Sh σ) (h : q_Call G d 0 0 X_M_findFitting [.ref 159] (q_setI σ 159 0 0) (q_rv (fun σ2 => Q (some (.int (q_I σ2 159 36))) σ2))) : q_At G X_M_how (d + 1) 0 0 0 [some (.ref 159)] [] σ Q := by
  refine q_aload_n o_M_how_0 rfl ?_
  refine q_iconst (v := 0) o_M_how_1 (by decide) ?_
  refine q2_putI hs o_M_how_2 fp_M_1 rfl rfl rfl ?_
  refine q_aload_n o_M_how_5 rfl ?_
  refine q2_callVv _ (a := 159) (As := []) (st := []) hs o_M_how_6 k_M_466 rfl rfl (Nat.le_of_ble_eq_true rfl) h (fun σ2 hs3 h1 => ?_)
  refine q_aload_n o_M_how_9 rfl ?_
  refine q2_getI hs3 o_M_how_10 f_M_457 rfl ?_
  exact q_ire o_M_how_13 rfl h1

set_option maxRecDepth 20000 in
theorem v_M_were_0 {G : q_G} {d : Nat} {σ : q_S} {Q : Option Value → q_S → Prop} {p0 : Int32} {p1 : Int32}  (hs : q_Sh σ) (h : q_Call G d 0 0 X_M_areTwo [.ref 159, .int p0, .int p1] (q_setI σ 159 0 0) (q_ri (fun x4 σ2 => ((¬ x4 = 0 → q_Call G d 0 0 X_M_findFitting [.ref 159] σ2 (q_rv (fun σ8 => (∃ k11, ((6 * p0) + p1) = nI k11 ∧ k11 < 36 ∧ Q (some (.int (if (q_I σ8 159 36) = 0 then ((-1) : Int32) else (if (q_I σ8 181 k11) = 0 then (0 : Int32) else (if (q_I σ8 181 k11) = (q_I σ8 159 36) then (1 : Int32) else (2 : Int32)))))) σ8)))) ∧ (x4 = 0 → Q (some (.int (-1))) σ2))))) : q_At G X_M_were (d + 1) 0 0 0 [some (.ref 159), some (.int p0), some (.int p1), none] [] σ Q := by
  refine q_aload_n o_M_were_0 rfl ?_
  refine q_iconst (v := 0) o_M_were_1 (by decide) ?_
  refine q2_putI hs o_M_were_2 fp_M_1 rfl rfl rfl ?_
  refine q_aload_n o_M_were_5 rfl ?_
  refine q_iload_n o_M_were_6 rfl ?_
  refine q_iload_n o_M_were_7 rfl ?_
  refine q2_callVi _ (a := 159) (As := [.int p0, .int p1]) (st := []) hs o_M_were_8 k_M_362 rfl rfl (Nat.le_of_ble_eq_true rfl) h (fun x4 σ2 hs3 h1 => ?_)
  refine q_if_ne o_M_were_11 (fun c5 => ?_) (fun c5 => ?_)
  · have h6 := h1.1 c5
    refine q_aload_n o_M_were_16 rfl ?_
    refine q2_callVv _ (a := 159) (As := []) (st := []) hs3 o_M_were_17 k_M_466 rfl rfl (Nat.le_of_ble_eq_true rfl) h6 (fun σ8 hs9 h7 => ?_)
    refine q_aload_n o_M_were_20 rfl ?_
    refine q2_getR hs9 o_M_were_21 f_M_152 rfl (fz_159_35 hs9) ?_
    refine q_bipush (v := 6) o_M_were_24 (by decide) ?_
    refine q_iload_n o_M_were_26 rfl ?_
    refine q_imul o_M_were_27 ?_
    refine q_iload_n o_M_were_28 rfl ?_
    refine q_iadd o_M_were_29 ?_
    obtain ⟨k11, eh10, bh10, h10⟩ := h7
    refine q2_iald hs9 o_M_were_30 rfl eh10 bh10 (by decide) ?_
    refine q2_istn (ls' := [some (.ref 159), some (.int p0), some (.int p1), some (.int (q_I σ8 181 k11))]) o_M_were_31 (Nat.le_of_ble_eq_true rfl) rfl ?_
    refine q_aload_n o_M_were_32 rfl ?_
    refine q2_getI hs9 o_M_were_33 f_M_457 rfl ?_
    have hJ : ∀ vJ : Int32, vJ = (if (q_I σ8 159 36) = 0 then ((-1) : Int32) else (if (q_I σ8 181 k11) = 0 then (0 : Int32) else (if (q_I σ8 181 k11) = (q_I σ8 159 36) then (1 : Int32) else (2 : Int32)))) → q_At G X_M_were (d + 1) 0 0 64 [some (.ref 159), some (.int p0), some (.int p1), some (.int (q_I σ8 181 k11))] [.int vJ] σ8 Q := by
      intro vJ eJ
      rw [eJ]
      clear eJ vJ
      exact q_ire o_M_were_64 rfl h10
    refine q_if_ne o_M_were_36 (fun c12 => ?_) (fun c12 => ?_)
    · refine q_iload_n o_M_were_43 rfl ?_
      refine q_if_ne o_M_were_44 (fun c13 => ?_) (fun c13 => ?_)
      · refine q_iload_n o_M_were_51 rfl ?_
        refine q_aload_n o_M_were_52 rfl ?_
        refine q2_getI hs9 o_M_were_53 f_M_457 rfl ?_
        refine q_icmp_ne o_M_were_56 (fun c14 => ?_) (fun c14 => ?_)
        · refine q_iconst (v := 2) o_M_were_63 (by decide) ?_
          exact hJ _ (Eq.symm (((if_neg c12).trans (if_neg c13)).trans (if_neg c14)))
        · refine q_iconst (v := 1) o_M_were_59 (by decide) ?_
          refine q_goto o_M_were_60 ?_
          exact hJ _ (Eq.symm (((if_neg c12).trans (if_neg c13)).trans (if_pos c14)))
      · refine q_iconst (v := 0) o_M_were_47 (by decide) ?_
        refine q_goto o_M_were_48 ?_
        exact hJ _ (Eq.symm ((if_neg c12).trans (if_pos c13)))
    · refine q_iconst (v := (-1)) o_M_were_39 (by decide) ?_
      refine q_goto o_M_were_40 ?_
      exact hJ _ (Eq.symm (if_pos c12))
  · have h15 := h1.2 c5
    refine q_iconst (v := (-1)) o_M_were_14 (by decide) ?_
    exact q_ire o_M_were_15 rfl h15

set_option maxRecDepth 20000 in
theorem v_M_ask_0 {G : q_G} {d : Nat} {σ : q_S} {Q : Option Value → q_S → Prop}   (hs : q_Sh σ) (h : q_Call G d 0 0 X_M_findFitting [.ref 159] (q_setI σ 159 0 0) (q_rv (fun σ2 => q_At G X_M_ask (d + 1) 0 0 18 [some (.ref 159), some (.int (-1)), some (.int (q_I σ2 159 36)), some (.int 0), none, none, none] [] σ2 Q))) : q_At G X_M_ask (d + 1) 0 0 0 [some (.ref 159), none, none, none, none, none, none] [] σ Q := by
  refine q_aload_n o_M_ask_0 rfl ?_
  refine q_iconst (v := 0) o_M_ask_1 (by decide) ?_
  refine q2_putI hs o_M_ask_2 fp_M_1 rfl rfl rfl ?_
  refine q_aload_n o_M_ask_5 rfl ?_
  refine q2_callVv _ (a := 159) (As := []) (st := []) hs o_M_ask_6 k_M_466 rfl rfl (Nat.le_of_ble_eq_true rfl) h (fun σ2 hs3 h1 => ?_)
  refine q_iconst (v := (-1)) o_M_ask_9 (by decide) ?_
  refine q2_istn (ls' := [some (.ref 159), some (.int (-1)), none, none, none, none, none]) o_M_ask_10 (Nat.le_of_ble_eq_true rfl) rfl ?_
  refine q_aload_n o_M_ask_11 rfl ?_
  refine q2_getI hs3 o_M_ask_12 f_M_457 rfl ?_
  refine q2_istn (ls' := [some (.ref 159), some (.int (-1)), some (.int (q_I σ2 159 36)), none, none, none, none]) o_M_ask_15 (Nat.le_of_ble_eq_true rfl) rfl ?_
  refine q_iconst (v := 0) o_M_ask_16 (by decide) ?_
  refine q2_istn (ls' := [some (.ref 159), some (.int (-1)), some (.int (q_I σ2 159 36)), some (.int 0), none, none, none]) o_M_ask_17 (Nat.le_of_ble_eq_true rfl) rfl ?_
  exact h1

set_option maxRecDepth 20000 in
theorem v_M_ask_18 {G : q_G} {d : Nat} {σ : q_S} {Q : Option Value → q_S → Prop} {l1 : Int32} {l2 : Int32} {l3 : Int32}  (hs : q_Sh σ) (h : (((q_I σ 165 1) ≤ l3 → Q (some (.int l1)) σ) ∧ (¬ (q_I σ 165 1) ≤ l3 → q_At G X_M_ask (d + 1) 0 0 31 [some (.ref 159), some (.int l1), some (.int l2), some (.int l3), some (.int (l3 + 1)), none, none] [] σ Q))) : q_At G X_M_ask (d + 1) 0 0 18 [some (.ref 159), some (.int l1), some (.int l2), some (.int l3), none, none, none] [] σ Q := by
  refine q_iload_n o_M_ask_18 rfl ?_
  refine q_aload_n o_M_ask_19 rfl ?_
  refine q2_M_families hs o_M_ask_20 k_M_309 (Nat.le_of_ble_eq_true rfl) ?_
  refine q_icmp_ge o_M_ask_23 (fun c1 => ?_) (fun c1 => ?_)
  · have h2 := h.1 c1
    refine q_iload_n o_M_ask_123 rfl ?_
    exact q_ire o_M_ask_124 rfl h2
  · have h3 := h.2 c1
    refine q_iload_n o_M_ask_26 rfl ?_
    refine q_iconst (v := 1) o_M_ask_27 (by decide) ?_
    refine q_iadd o_M_ask_28 ?_
    refine q2_ist (ls' := [some (.ref 159), some (.int l1), some (.int l2), some (.int l3), some (.int (l3 + 1)), none, none]) o_M_ask_29 (Nat.le_of_ble_eq_true rfl) rfl ?_
    exact h3

set_option maxRecDepth 20000 in
theorem v_M_ask_31 {G : q_G} {d : Nat} {σ : q_S} {Q : Option Value → q_S → Prop} {l1 : Int32} {l2 : Int32} {l3 : Int32} {l4 : Int32}  (hs : q_Sh σ) (h : (((q_I σ 165 1) ≤ l4 → q_At G X_M_ask (d + 1) 0 0 18 [some (.ref 159), some (.int l1), some (.int l2), some (.int (l3 + 1)), none, none, none] [] σ Q) ∧ (¬ (q_I σ 165 1) ≤ l4 → (∃ k5, ((6 * l3) + l4) = nI k5 ∧ k5 < 36 ∧ q_At G X_M_ask (d + 1) 0 0 31 [some (.ref 159), some (.int (if l2 ≤ (if (q_I σ 181 k5) ≤ ((q_I σ 159 36) - (q_I σ 181 k5)) then ((q_I σ 159 36) - (q_I σ 181 k5)) else (q_I σ 181 k5)) then l1 else ((6 * l3) + l4))), some (.int (if l2 ≤ (if (q_I σ 181 k5) ≤ ((q_I σ 159 36) - (q_I σ 181 k5)) then ((q_I σ 159 36) - (q_I σ 181 k5)) else (q_I σ 181 k5)) then l2 else (if (q_I σ 181 k5) ≤ ((q_I σ 159 36) - (q_I σ 181 k5)) then ((q_I σ 159 36) - (q_I σ 181 k5)) else (q_I σ 181 k5)))), some (.int l3), some (.int (l4 + 1)), none, none] [] σ Q)))) : q_At G X_M_ask (d + 1) 0 0 31 [some (.ref 159), some (.int l1), some (.int l2), some (.int l3), some (.int l4), none, none] [] σ Q := by
  refine q_iload o_M_ask_31 rfl ?_
  refine q_aload_n o_M_ask_33 rfl ?_
  refine q2_M_families hs o_M_ask_34 k_M_309 (Nat.le_of_ble_eq_true rfl) ?_
  refine q_icmp_ge o_M_ask_37 (fun c1 => ?_) (fun c1 => ?_)
  · have h2 := h.1 c1
    refine q2_inc (v := (l3 + 1)) (ls' := [some (.ref 159), some (.int l1), some (.int l2), some (.int (l3 + 1)), some (.int l4), none, none]) o_M_ask_117 rfl rfl (Nat.le_of_ble_eq_true rfl) rfl ?_
    refine q_goto o_M_ask_120 ?_
    exact q_weak (ls' := [some (.ref 159), some (.int l1), some (.int l2), some (.int (l3 + 1)), none, none, none]) (And.intro rfl (And.intro rfl (And.intro rfl (And.intro rfl trivial)))) h2
  · have h3 := h.2 c1
    refine q_aload_n o_M_ask_40 rfl ?_
    refine q2_getR hs o_M_ask_41 f_M_152 rfl (fz_159_35 hs) ?_
    refine q_bipush (v := 6) o_M_ask_44 (by decide) ?_
    refine q_iload_n o_M_ask_46 rfl ?_
    refine q_imul o_M_ask_47 ?_
    refine q_iload o_M_ask_48 rfl ?_
    refine q_iadd o_M_ask_50 ?_
    obtain ⟨k5, eh4, bh4, h4⟩ := h3
    refine q2_iald hs o_M_ask_51 rfl eh4 bh4 (by decide) ?_
    refine q2_ist (ls' := [some (.ref 159), some (.int l1), some (.int l2), some (.int l3), some (.int l4), some (.int (q_I σ 181 k5)), none]) o_M_ask_52 (Nat.le_of_ble_eq_true rfl) rfl ?_
    refine q_iload o_M_ask_54 rfl ?_
    refine q_aload_n o_M_ask_56 rfl ?_
    refine q2_getI hs o_M_ask_57 f_M_457 rfl ?_
    refine q_iload o_M_ask_60 rfl ?_
    refine q_isub o_M_ask_62 ?_
    have hJ : ∀ vJ : Int32, vJ = (if (q_I σ 181 k5) ≤ ((q_I σ 159 36) - (q_I σ 181 k5)) then ((q_I σ 159 36) - (q_I σ 181 k5)) else (q_I σ 181 k5)) → q_At G X_M_ask (d + 1) 0 0 78 [some (.ref 159), some (.int l1), some (.int l2), some (.int l3), some (.int l4), some (.int (q_I σ 181 k5)), none] [.int vJ] σ Q := by
      intro vJ eJ
      rw [eJ]
      clear eJ vJ
      refine q2_ist (ls' := [some (.ref 159), some (.int l1), some (.int l2), some (.int l3), some (.int l4), some (.int (q_I σ 181 k5)), some (.int (if (q_I σ 181 k5) ≤ ((q_I σ 159 36) - (q_I σ 181 k5)) then ((q_I σ 159 36) - (q_I σ 181 k5)) else (q_I σ 181 k5)))]) o_M_ask_78 (Nat.le_of_ble_eq_true rfl) rfl ?_
      refine q_iload o_M_ask_80 rfl ?_
      refine q_iload_n o_M_ask_82 rfl ?_
      have hJ : ∀ vJ : Int32, vJ = (if l2 ≤ (if (q_I σ 181 k5) ≤ ((q_I σ 159 36) - (q_I σ 181 k5)) then ((q_I σ 159 36) - (q_I σ 181 k5)) else (q_I σ 181 k5)) then l1 else ((6 * l3) + l4)) → q_At G X_M_ask (d + 1) 0 0 97 [some (.ref 159), some (.int l1), some (.int l2), some (.int l3), some (.int l4), some (.int (q_I σ 181 k5)), some (.int (if (q_I σ 181 k5) ≤ ((q_I σ 159 36) - (q_I σ 181 k5)) then ((q_I σ 159 36) - (q_I σ 181 k5)) else (q_I σ 181 k5)))] [.int vJ] σ Q := by
        intro vJ eJ
        rw [eJ]
        clear eJ vJ
        refine q2_istn (ls' := [some (.ref 159), some (.int (if l2 ≤ (if (q_I σ 181 k5) ≤ ((q_I σ 159 36) - (q_I σ 181 k5)) then ((q_I σ 159 36) - (q_I σ 181 k5)) else (q_I σ 181 k5)) then l1 else ((6 * l3) + l4))), some (.int l2), some (.int l3), some (.int l4), some (.int (q_I σ 181 k5)), some (.int (if (q_I σ 181 k5) ≤ ((q_I σ 159 36) - (q_I σ 181 k5)) then ((q_I σ 159 36) - (q_I σ 181 k5)) else (q_I σ 181 k5)))]) o_M_ask_97 (Nat.le_of_ble_eq_true rfl) rfl ?_
        refine q_iload o_M_ask_98 rfl ?_
        refine q_iload_n o_M_ask_100 rfl ?_
        have hJ : ∀ vJ : Int32, vJ = (if l2 ≤ (if (q_I σ 181 k5) ≤ ((q_I σ 159 36) - (q_I σ 181 k5)) then ((q_I σ 159 36) - (q_I σ 181 k5)) else (q_I σ 181 k5)) then l2 else (if (q_I σ 181 k5) ≤ ((q_I σ 159 36) - (q_I σ 181 k5)) then ((q_I σ 159 36) - (q_I σ 181 k5)) else (q_I σ 181 k5))) → q_At G X_M_ask (d + 1) 0 0 110 [some (.ref 159), some (.int (if l2 ≤ (if (q_I σ 181 k5) ≤ ((q_I σ 159 36) - (q_I σ 181 k5)) then ((q_I σ 159 36) - (q_I σ 181 k5)) else (q_I σ 181 k5)) then l1 else ((6 * l3) + l4))), some (.int l2), some (.int l3), some (.int l4), some (.int (q_I σ 181 k5)), some (.int (if (q_I σ 181 k5) ≤ ((q_I σ 159 36) - (q_I σ 181 k5)) then ((q_I σ 159 36) - (q_I σ 181 k5)) else (q_I σ 181 k5)))] [.int vJ] σ Q := by
          intro vJ eJ
          rw [eJ]
          clear eJ vJ
          refine q2_istn (ls' := [some (.ref 159), some (.int (if l2 ≤ (if (q_I σ 181 k5) ≤ ((q_I σ 159 36) - (q_I σ 181 k5)) then ((q_I σ 159 36) - (q_I σ 181 k5)) else (q_I σ 181 k5)) then l1 else ((6 * l3) + l4))), some (.int (if l2 ≤ (if (q_I σ 181 k5) ≤ ((q_I σ 159 36) - (q_I σ 181 k5)) then ((q_I σ 159 36) - (q_I σ 181 k5)) else (q_I σ 181 k5)) then l2 else (if (q_I σ 181 k5) ≤ ((q_I σ 159 36) - (q_I σ 181 k5)) then ((q_I σ 159 36) - (q_I σ 181 k5)) else (q_I σ 181 k5)))), some (.int l3), some (.int l4), some (.int (q_I σ 181 k5)), some (.int (if (q_I σ 181 k5) ≤ ((q_I σ 159 36) - (q_I σ 181 k5)) then ((q_I σ 159 36) - (q_I σ 181 k5)) else (q_I σ 181 k5)))]) o_M_ask_110 (Nat.le_of_ble_eq_true rfl) rfl ?_
          refine q2_inc (v := (l4 + 1)) (ls' := [some (.ref 159), some (.int (if l2 ≤ (if (q_I σ 181 k5) ≤ ((q_I σ 159 36) - (q_I σ 181 k5)) then ((q_I σ 159 36) - (q_I σ 181 k5)) else (q_I σ 181 k5)) then l1 else ((6 * l3) + l4))), some (.int (if l2 ≤ (if (q_I σ 181 k5) ≤ ((q_I σ 159 36) - (q_I σ 181 k5)) then ((q_I σ 159 36) - (q_I σ 181 k5)) else (q_I σ 181 k5)) then l2 else (if (q_I σ 181 k5) ≤ ((q_I σ 159 36) - (q_I σ 181 k5)) then ((q_I σ 159 36) - (q_I σ 181 k5)) else (q_I σ 181 k5)))), some (.int l3), some (.int (l4 + 1)), some (.int (q_I σ 181 k5)), some (.int (if (q_I σ 181 k5) ≤ ((q_I σ 159 36) - (q_I σ 181 k5)) then ((q_I σ 159 36) - (q_I σ 181 k5)) else (q_I σ 181 k5)))]) o_M_ask_111 rfl rfl (Nat.le_of_ble_eq_true rfl) rfl ?_
          refine q_goto o_M_ask_114 ?_
          exact q_weak (ls' := [some (.ref 159), some (.int (if l2 ≤ (if (q_I σ 181 k5) ≤ ((q_I σ 159 36) - (q_I σ 181 k5)) then ((q_I σ 159 36) - (q_I σ 181 k5)) else (q_I σ 181 k5)) then l1 else ((6 * l3) + l4))), some (.int (if l2 ≤ (if (q_I σ 181 k5) ≤ ((q_I σ 159 36) - (q_I σ 181 k5)) then ((q_I σ 159 36) - (q_I σ 181 k5)) else (q_I σ 181 k5)) then l2 else (if (q_I σ 181 k5) ≤ ((q_I σ 159 36) - (q_I σ 181 k5)) then ((q_I σ 159 36) - (q_I σ 181 k5)) else (q_I σ 181 k5)))), some (.int l3), some (.int (l4 + 1)), none, none]) (And.intro rfl (And.intro rfl (And.intro rfl (And.intro rfl (And.intro rfl trivial))))) h4
        refine q_icmp_ge o_M_ask_101 (fun c8 => ?_) (fun c8 => ?_)
        · refine q_iload_n o_M_ask_109 rfl ?_
          exact hJ _ (Eq.symm (if_pos c8))
        · refine q_iload o_M_ask_104 rfl ?_
          refine q_goto o_M_ask_106 ?_
          exact hJ _ (Eq.symm (if_neg c8))
      refine q_icmp_ge o_M_ask_83 (fun c7 => ?_) (fun c7 => ?_)
      · refine q_iload_n o_M_ask_96 rfl ?_
        exact hJ _ (Eq.symm (if_pos c7))
      · refine q_bipush (v := 6) o_M_ask_86 (by decide) ?_
        refine q_iload_n o_M_ask_88 rfl ?_
        refine q_imul o_M_ask_89 ?_
        refine q_iload o_M_ask_90 rfl ?_
        refine q_iadd o_M_ask_92 ?_
        refine q_goto o_M_ask_93 ?_
        exact hJ _ (Eq.symm (if_neg c7))
    refine q_icmp_le o_M_ask_63 (fun c6 => ?_) (fun c6 => ?_)
    · refine q_aload_n o_M_ask_71 rfl ?_
      refine q2_getI hs o_M_ask_72 f_M_457 rfl ?_
      refine q_iload o_M_ask_75 rfl ?_
      refine q_isub o_M_ask_77 ?_
      exact hJ _ (Eq.symm (if_pos c6))
    · refine q_iload o_M_ask_66 rfl ?_
      refine q_goto o_M_ask_68 ?_
      exact hJ _ (Eq.symm (if_neg c6))

set_option maxRecDepth 20000 in
theorem v_M_gains_0 {G : q_G} {d : Nat} {σ : q_S} {Q : Option Value → q_S → Prop} {p0 : Int32}  (hs : q_Sh σ) (h : q_Call G d 0 0 X_M_isFamily [.ref 159, .int p0] σ (q_ri (fun x4 σ2 => q_At G X_M_gains (d + 1) 0 0 21 [some (.ref 159), some (.int p0), some (.int 0), some (.int 0)] [] (q_setI σ2 159 0 (if x4 = 0 then (1 : Int32) else (0 : Int32))) Q))) : q_At G X_M_gains (d + 1) 0 0 0 [some (.ref 159), some (.int p0), none, none] [] σ Q := by
  refine q_aload_n o_M_gains_0 rfl ?_
  refine q_aload_n o_M_gains_1 rfl ?_
  refine q_iload_n o_M_gains_2 rfl ?_
  refine q2_callVi _ (a := 159) (As := [.int p0]) (st := [.ref 159]) hs o_M_gains_3 k_M_332 rfl rfl (Nat.le_of_ble_eq_true rfl) h (fun x4 σ2 hs3 h1 => ?_)
  have hJ : ∀ vJ : Int32, vJ = (if x4 = 0 then (1 : Int32) else (0 : Int32)) → q_At G X_M_gains (d + 1) 0 0 14 [some (.ref 159), some (.int p0), none, none] [.int vJ, .ref 159] σ2 Q := by
    intro vJ eJ
    rw [eJ]
    clear eJ vJ
    refine q2_putI hs3 o_M_gains_14 fp_M_1 rfl rfl rfl ?_
    refine q_iconst (v := 0) o_M_gains_17 (by decide) ?_
    refine q2_istn (ls' := [some (.ref 159), some (.int p0), some (.int 0), none]) o_M_gains_18 (Nat.le_of_ble_eq_true rfl) rfl ?_
    refine q_iconst (v := 0) o_M_gains_19 (by decide) ?_
    refine q2_istn (ls' := [some (.ref 159), some (.int p0), some (.int 0), some (.int 0)]) o_M_gains_20 (Nat.le_of_ble_eq_true rfl) rfl ?_
    exact h1
  refine q_if_eq o_M_gains_6 (fun c5 => ?_) (fun c5 => ?_)
  · refine q_iconst (v := 1) o_M_gains_13 (by decide) ?_
    exact hJ _ (Eq.symm (if_pos c5))
  · refine q_iconst (v := 0) o_M_gains_9 (by decide) ?_
    refine q_goto o_M_gains_10 ?_
    exact hJ _ (Eq.symm (if_neg c5))

set_option maxRecDepth 20000 in
theorem v_M_gains_21 {G : q_G} {d : Nat} {σ : q_S} {Q : Option Value → q_S → Prop} {p0 : Int32} {l2 : Int32} {l3 : Int32}  (hs : q_Sh σ) (h : (((q_I σ 165 1) ≤ l3 → Q (some (.int l2)) σ) ∧ (¬ (q_I σ 165 1) ≤ l3 → ((¬ (q_I σ 159 0) = 0 → Q (some (.int l2)) σ) ∧ ((q_I σ 159 0) = 0 → q_Call G d 0 0 X_M_lapses [.ref 159, .int 0, .int p0, .int l3] σ (q_ri (fun x10 σ8 => ((x10 = 0 → q_Call G d 0 0 X_M_lapses [.ref 159, .int 0, .int l3, .int p0] σ8 (q_ri (fun x16 σ14 => ((x16 = 0 → q_At G X_M_gains (d + 1) 0 0 21 [some (.ref 159), some (.int p0), some (.int ((l2 + 0) - 0)), some (.int (l3 + 1))] [] σ14 Q) ∧ (¬ x16 = 0 → (∃ k21, ((12 + (6 * l3)) + p0) = nI k21 ∧ k21 < 1886 ∧ q_At G X_M_gains (d + 1) 0 0 21 [some (.ref 159), some (.int p0), some (.int ((l2 + 0) - (q_I σ14 175 k21))), some (.int (l3 + 1))] [] σ14 Q)))))) ∧ (¬ x10 = 0 → (∃ k24, ((12 + (6 * p0)) + l3) = nI k24 ∧ k24 < 1886 ∧ q_Call G d 0 0 X_M_lapses [.ref 159, .int 0, .int l3, .int p0] σ8 (q_ri (fun x28 σ26 => ((x28 = 0 → q_At G X_M_gains (d + 1) 0 0 21 [some (.ref 159), some (.int p0), some (.int ((l2 + (q_I σ8 175 k24)) - 0)), some (.int (l3 + 1))] [] σ26 Q) ∧ (¬ x28 = 0 → (∃ k33, ((12 + (6 * l3)) + p0) = nI k33 ∧ k33 < 1886 ∧ q_At G X_M_gains (d + 1) 0 0 21 [some (.ref 159), some (.int p0), some (.int ((l2 + (q_I σ8 175 k24)) - (q_I σ26 175 k33))), some (.int (l3 + 1))] [] σ26 Q))))))))))))))) : q_At G X_M_gains (d + 1) 0 0 21 [some (.ref 159), some (.int p0), some (.int l2), some (.int l3)] [] σ Q := by
  refine q_iload_n o_M_gains_21 rfl ?_
  refine q_aload_n o_M_gains_22 rfl ?_
  refine q2_M_families hs o_M_gains_23 k_M_309 (Nat.le_of_ble_eq_true rfl) ?_
  refine q_icmp_ge o_M_gains_26 (fun c1 => ?_) (fun c1 => ?_)
  · have h2 := h.1 c1
    refine q_iload_n o_M_gains_104 rfl ?_
    exact q_ire o_M_gains_105 rfl h2
  · have h3 := h.2 c1
    refine q_aload_n o_M_gains_29 rfl ?_
    refine q2_getI hs o_M_gains_30 f_M_1 rfl ?_
    refine q_if_ne o_M_gains_33 (fun c4 => ?_) (fun c4 => ?_)
    · have h5 := h3.1 c4
      refine q_iload_n o_M_gains_104 rfl ?_
      exact q_ire o_M_gains_105 rfl h5
    · have h6 := h3.2 c4
      refine q_iload_n o_M_gains_36 rfl ?_
      refine q_aload_n o_M_gains_37 rfl ?_
      refine q_iconst (v := 0) o_M_gains_38 (by decide) ?_
      refine q_iload_n o_M_gains_39 rfl ?_
      refine q_iload_n o_M_gains_40 rfl ?_
      refine q2_callVi _ (a := 159) (As := [.int 0, .int p0, .int l3]) (st := [.int l2]) hs o_M_gains_41 k_M_378 rfl rfl (Nat.le_of_ble_eq_true rfl) h6 (fun x10 σ8 hs9 h7 => ?_)
      refine q_if_eq o_M_gains_44 (fun c11 => ?_) (fun c11 => ?_)
      · have h12 := h7.1 c11
        refine q_iconst (v := 0) o_M_gains_64 (by decide) ?_
        refine q_iadd o_M_gains_65 ?_
        refine q2_istn (ls' := [some (.ref 159), some (.int p0), some (.int (l2 + 0)), some (.int l3)]) o_M_gains_66 (Nat.le_of_ble_eq_true rfl) rfl ?_
        refine q_iload_n o_M_gains_67 rfl ?_
        refine q_aload_n o_M_gains_68 rfl ?_
        refine q_iconst (v := 0) o_M_gains_69 (by decide) ?_
        refine q_iload_n o_M_gains_70 rfl ?_
        refine q_iload_n o_M_gains_71 rfl ?_
        refine q2_callVi _ (a := 159) (As := [.int 0, .int l3, .int p0]) (st := [.int (l2 + 0)]) hs9 o_M_gains_72 k_M_378 rfl rfl (Nat.le_of_ble_eq_true rfl) h12 (fun x16 σ14 hs15 h13 => ?_)
        refine q_if_eq o_M_gains_75 (fun c17 => ?_) (fun c17 => ?_)
        · have h18 := h13.1 c17
          refine q_iconst (v := 0) o_M_gains_95 (by decide) ?_
          refine q_isub o_M_gains_96 ?_
          refine q2_istn (ls' := [some (.ref 159), some (.int p0), some (.int ((l2 + 0) - 0)), some (.int l3)]) o_M_gains_97 (Nat.le_of_ble_eq_true rfl) rfl ?_
          refine q2_inc (v := (l3 + 1)) (ls' := [some (.ref 159), some (.int p0), some (.int ((l2 + 0) - 0)), some (.int (l3 + 1))]) o_M_gains_98 rfl rfl (Nat.le_of_ble_eq_true rfl) rfl ?_
          refine q_goto o_M_gains_101 ?_
          exact h18
        · have h19 := h13.2 c17
          refine q_aload_n o_M_gains_78 rfl ?_
          refine q2_getR hs15 o_M_gains_79 f_M_133 rfl (fz_159_24 hs15) ?_
          refine q_bipush (v := 12) o_M_gains_82 (by decide) ?_
          refine q_bipush (v := 6) o_M_gains_84 (by decide) ?_
          refine q_iload_n o_M_gains_86 rfl ?_
          refine q_imul o_M_gains_87 ?_
          refine q_iadd o_M_gains_88 ?_
          refine q_iload_n o_M_gains_89 rfl ?_
          refine q_iadd o_M_gains_90 ?_
          obtain ⟨k21, eh20, bh20, h20⟩ := h19
          refine q2_iald hs15 o_M_gains_91 rfl eh20 bh20 (by decide) ?_
          refine q_goto o_M_gains_92 ?_
          refine q_isub o_M_gains_96 ?_
          refine q2_istn (ls' := [some (.ref 159), some (.int p0), some (.int ((l2 + 0) - (q_I σ14 175 k21))), some (.int l3)]) o_M_gains_97 (Nat.le_of_ble_eq_true rfl) rfl ?_
          refine q2_inc (v := (l3 + 1)) (ls' := [some (.ref 159), some (.int p0), some (.int ((l2 + 0) - (q_I σ14 175 k21))), some (.int (l3 + 1))]) o_M_gains_98 rfl rfl (Nat.le_of_ble_eq_true rfl) rfl ?_
          refine q_goto o_M_gains_101 ?_
          exact h20
      · have h22 := h7.2 c11
        refine q_aload_n o_M_gains_47 rfl ?_
        refine q2_getR hs9 o_M_gains_48 f_M_133 rfl (fz_159_24 hs9) ?_
        refine q_bipush (v := 12) o_M_gains_51 (by decide) ?_
        refine q_bipush (v := 6) o_M_gains_53 (by decide) ?_
        refine q_iload_n o_M_gains_55 rfl ?_
        refine q_imul o_M_gains_56 ?_
        refine q_iadd o_M_gains_57 ?_
        refine q_iload_n o_M_gains_58 rfl ?_
        refine q_iadd o_M_gains_59 ?_
        obtain ⟨k24, eh23, bh23, h23⟩ := h22
        refine q2_iald hs9 o_M_gains_60 rfl eh23 bh23 (by decide) ?_
        refine q_goto o_M_gains_61 ?_
        refine q_iadd o_M_gains_65 ?_
        refine q2_istn (ls' := [some (.ref 159), some (.int p0), some (.int (l2 + (q_I σ8 175 k24))), some (.int l3)]) o_M_gains_66 (Nat.le_of_ble_eq_true rfl) rfl ?_
        refine q_iload_n o_M_gains_67 rfl ?_
        refine q_aload_n o_M_gains_68 rfl ?_
        refine q_iconst (v := 0) o_M_gains_69 (by decide) ?_
        refine q_iload_n o_M_gains_70 rfl ?_
        refine q_iload_n o_M_gains_71 rfl ?_
        refine q2_callVi _ (a := 159) (As := [.int 0, .int l3, .int p0]) (st := [.int (l2 + (q_I σ8 175 k24))]) hs9 o_M_gains_72 k_M_378 rfl rfl (Nat.le_of_ble_eq_true rfl) h23 (fun x28 σ26 hs27 h25 => ?_)
        refine q_if_eq o_M_gains_75 (fun c29 => ?_) (fun c29 => ?_)
        · have h30 := h25.1 c29
          refine q_iconst (v := 0) o_M_gains_95 (by decide) ?_
          refine q_isub o_M_gains_96 ?_
          refine q2_istn (ls' := [some (.ref 159), some (.int p0), some (.int ((l2 + (q_I σ8 175 k24)) - 0)), some (.int l3)]) o_M_gains_97 (Nat.le_of_ble_eq_true rfl) rfl ?_
          refine q2_inc (v := (l3 + 1)) (ls' := [some (.ref 159), some (.int p0), some (.int ((l2 + (q_I σ8 175 k24)) - 0)), some (.int (l3 + 1))]) o_M_gains_98 rfl rfl (Nat.le_of_ble_eq_true rfl) rfl ?_
          refine q_goto o_M_gains_101 ?_
          exact h30
        · have h31 := h25.2 c29
          refine q_aload_n o_M_gains_78 rfl ?_
          refine q2_getR hs27 o_M_gains_79 f_M_133 rfl (fz_159_24 hs27) ?_
          refine q_bipush (v := 12) o_M_gains_82 (by decide) ?_
          refine q_bipush (v := 6) o_M_gains_84 (by decide) ?_
          refine q_iload_n o_M_gains_86 rfl ?_
          refine q_imul o_M_gains_87 ?_
          refine q_iadd o_M_gains_88 ?_
          refine q_iload_n o_M_gains_89 rfl ?_
          refine q_iadd o_M_gains_90 ?_
          obtain ⟨k33, eh32, bh32, h32⟩ := h31
          refine q2_iald hs27 o_M_gains_91 rfl eh32 bh32 (by decide) ?_
          refine q_goto o_M_gains_92 ?_
          refine q_isub o_M_gains_96 ?_
          refine q2_istn (ls' := [some (.ref 159), some (.int p0), some (.int ((l2 + (q_I σ8 175 k24)) - (q_I σ26 175 k33))), some (.int l3)]) o_M_gains_97 (Nat.le_of_ble_eq_true rfl) rfl ?_
          refine q2_inc (v := (l3 + 1)) (ls' := [some (.ref 159), some (.int p0), some (.int ((l2 + (q_I σ8 175 k24)) - (q_I σ26 175 k33))), some (.int (l3 + 1))]) o_M_gains_98 rfl rfl (Nat.le_of_ble_eq_true rfl) rfl ?_
          refine q_goto o_M_gains_101 ?_
          exact h32

set_option maxRecDepth 20000 in
theorem v_M_tampered_0 {G : q_G} {d : Nat} {σ : q_S} {Q : Option Value → q_S → Prop} {p0 : Int32} {p1 : Int32} {p2 : Int32} {p3 : Int32}  (hs : q_Sh σ) (h : q_Call G d 0 0 X_M_areTwo [.ref 159, .int p0, .int p1] (q_setI σ 159 0 0) (q_ri (fun x4 σ2 => ((x4 = 0 → Q (some (.int (-1))) σ2) ∧ (¬ x4 = 0 → q_Call G d 0 0 X_M_within [.int p2, .int 1, .int 6] σ2 (q_ri (fun x11 σ9 => ((x11 = 0 → Q (some (.int (-1))) σ9) ∧ (¬ x11 = 0 → q_Call G d 0 0 X_M_within [.int p3, .int 0, .int p2] σ9 (q_ri (fun x18 σ16 => ((¬ x18 = 0 → q_At G X_M_tampered (d + 1) 0 0 65 [some (.ref 159), some (.int p0), some (.int p1), some (.int p2), some (.int p3), some (.int ((q_I σ16 165 0) * ((q_I σ16 165 0) - 1))), some (.int (2 * (q_I σ16 165 2))), some (.long 1), none, some (.int 0), none, none, none, none, none] [] σ16 Q) ∧ (x18 = 0 → Q (some (.int (-1))) σ16))))))))))))) : q_At G X_M_tampered (d + 1) 0 0 0 [some (.ref 159), some (.int p0), some (.int p1), some (.int p2), some (.int p3), none, none, none, none, none, none, none, none, none, none] [] σ Q := by
  refine q_aload_n o_M_tampered_0 rfl ?_
  refine q_iconst (v := 0) o_M_tampered_1 (by decide) ?_
  refine q2_putI hs o_M_tampered_2 fp_M_1 rfl rfl rfl ?_
  refine q_aload_n o_M_tampered_5 rfl ?_
  refine q_iload_n o_M_tampered_6 rfl ?_
  refine q_iload_n o_M_tampered_7 rfl ?_
  refine q2_callVi _ (a := 159) (As := [.int p0, .int p1]) (st := []) hs o_M_tampered_8 k_M_362 rfl rfl (Nat.le_of_ble_eq_true rfl) h (fun x4 σ2 hs3 h1 => ?_)
  refine q_if_eq o_M_tampered_11 (fun c5 => ?_) (fun c5 => ?_)
  · have h6 := h1.1 c5
    refine q_iconst (v := (-1)) o_M_tampered_34 (by decide) ?_
    exact q_ire o_M_tampered_35 rfl h6
  · have h7 := h1.2 c5
    refine q_iload_n o_M_tampered_14 rfl ?_
    refine q_iconst (v := 1) o_M_tampered_15 (by decide) ?_
    refine q_bipush (v := 6) o_M_tampered_16 (by decide) ?_
    refine q2_callSi _ (As := [.int p2, .int 1, .int 6]) (st := []) hs3 o_M_tampered_18 k_M_227 rfl (Nat.le_of_ble_eq_true rfl) h7 (fun x11 σ9 hs10 h8 => ?_)
    refine q_if_eq o_M_tampered_21 (fun c12 => ?_) (fun c12 => ?_)
    · have h13 := h8.1 c12
      refine q_iconst (v := (-1)) o_M_tampered_34 (by decide) ?_
      exact q_ire o_M_tampered_35 rfl h13
    · have h14 := h8.2 c12
      refine q_iload o_M_tampered_24 rfl ?_
      refine q_iconst (v := 0) o_M_tampered_26 (by decide) ?_
      refine q_iload_n o_M_tampered_27 rfl ?_
      refine q2_callSi _ (As := [.int p3, .int 0, .int p2]) (st := []) hs10 o_M_tampered_28 k_M_227 rfl (Nat.le_of_ble_eq_true rfl) h14 (fun x18 σ16 hs17 h15 => ?_)
      refine q_if_ne o_M_tampered_31 (fun c19 => ?_) (fun c19 => ?_)
      · have h20 := h15.1 c19
        refine q_aload_n o_M_tampered_36 rfl ?_
        refine q2_M_houses hs17 o_M_tampered_37 k_M_329 (Nat.le_of_ble_eq_true rfl) ?_
        refine q_aload_n o_M_tampered_40 rfl ?_
        refine q2_M_houses hs17 o_M_tampered_41 k_M_329 (Nat.le_of_ble_eq_true rfl) ?_
        refine q_iconst (v := 1) o_M_tampered_44 (by decide) ?_
        refine q_isub o_M_tampered_45 ?_
        refine q_imul o_M_tampered_46 ?_
        refine q2_ist (ls' := [some (.ref 159), some (.int p0), some (.int p1), some (.int p2), some (.int p3), some (.int ((q_I σ16 165 0) * ((q_I σ16 165 0) - 1))), none, none, none, none, none, none, none, none, none]) o_M_tampered_47 (Nat.le_of_ble_eq_true rfl) rfl ?_
        refine q_iconst (v := 2) o_M_tampered_49 (by decide) ?_
        refine q_aload_n o_M_tampered_50 rfl ?_
        refine q2_getR hs17 o_M_tampered_51 f_M_103 rfl (fz_159_10 hs17) ?_
        refine q_iconst (v := 2) o_M_tampered_54 (by decide) ?_
        refine q2_iald (i := 2) hs17 o_M_tampered_55 rfl rfl (by decide) (by decide) ?_
        refine q_imul o_M_tampered_56 ?_
        refine q2_ist (ls' := [some (.ref 159), some (.int p0), some (.int p1), some (.int p2), some (.int p3), some (.int ((q_I σ16 165 0) * ((q_I σ16 165 0) - 1))), some (.int (2 * (q_I σ16 165 2))), none, none, none, none, none, none, none, none]) o_M_tampered_57 (Nat.le_of_ble_eq_true rfl) rfl ?_
        refine q_lconst (v := 1) o_M_tampered_59 (by decide) ?_
        refine q2_lst (ls' := [some (.ref 159), some (.int p0), some (.int p1), some (.int p2), some (.int p3), some (.int ((q_I σ16 165 0) * ((q_I σ16 165 0) - 1))), some (.int (2 * (q_I σ16 165 2))), some (.long 1), none, none, none, none, none, none, none]) o_M_tampered_60 (Nat.le_of_ble_eq_true rfl) rfl ?_
        refine q_iconst (v := 0) o_M_tampered_62 (by decide) ?_
        refine q2_ist (ls' := [some (.ref 159), some (.int p0), some (.int p1), some (.int p2), some (.int p3), some (.int ((q_I σ16 165 0) * ((q_I σ16 165 0) - 1))), some (.int (2 * (q_I σ16 165 2))), some (.long 1), none, some (.int 0), none, none, none, none, none]) o_M_tampered_63 (Nat.le_of_ble_eq_true rfl) rfl ?_
        exact h20
      · have h23 := h15.2 c19
        refine q_iconst (v := (-1)) o_M_tampered_34 (by decide) ?_
        exact q_ire o_M_tampered_35 rfl h23

set_option maxRecDepth 20000 in
theorem v_M_tampered_65 {G : q_G} {d : Nat} {σ : q_S} {Q : Option Value → q_S → Prop} {p0 : Int32} {p1 : Int32} {p2 : Int32} {p3 : Int32} {l5 : Int32} {l6 : Int32} {l7 : Int64} {l9 : Int32}  (hs : q_Sh σ) (h : ((p2 ≤ l9 → q_At G X_M_tampered (d + 1) 0 0 92 [some (.ref 159), some (.int p0), some (.int p1), some (.int p2), some (.int p3), some (.int l5), some (.int l6), some (.long l7), none, some (.long 0), none, some (.int p3), none, none, none] [] σ Q) ∧ (¬ p2 ≤ l9 → q_At G X_M_tampered (d + 1) 0 0 65 [some (.ref 159), some (.int p0), some (.int p1), some (.int p2), some (.int p3), some (.int l5), some (.int l6), some (.long (l7 * l5.toInt64)), none, some (.int (l9 + 1)), none, none, none, none, none] [] σ Q))) : q_At G X_M_tampered (d + 1) 0 0 65 [some (.ref 159), some (.int p0), some (.int p1), some (.int p2), some (.int p3), some (.int l5), some (.int l6), some (.long l7), none, some (.int l9), none, none, none, none, none] [] σ Q := by
  refine q_iload o_M_tampered_65 rfl ?_
  refine q_iload_n o_M_tampered_67 rfl ?_
  refine q_icmp_ge o_M_tampered_68 (fun c1 => ?_) (fun c1 => ?_)
  · have h2 := h.1 c1
    refine q_lconst (v := 0) o_M_tampered_85 (by decide) ?_
    refine q2_lst (ls' := [some (.ref 159), some (.int p0), some (.int p1), some (.int p2), some (.int p3), some (.int l5), some (.int l6), some (.long l7), none, some (.long 0), none, none, none, none, none]) o_M_tampered_86 (Nat.le_of_ble_eq_true rfl) rfl ?_
    refine q_iload o_M_tampered_88 rfl ?_
    refine q2_ist (ls' := [some (.ref 159), some (.int p0), some (.int p1), some (.int p2), some (.int p3), some (.int l5), some (.int l6), some (.long l7), none, some (.long 0), none, some (.int p3), none, none, none]) o_M_tampered_90 (Nat.le_of_ble_eq_true rfl) rfl ?_
    exact h2
  · have h3 := h.2 c1
    refine q_lload o_M_tampered_71 rfl ?_
    refine q_iload o_M_tampered_73 rfl ?_
    refine q_i2l o_M_tampered_75 ?_
    refine q_lmul o_M_tampered_76 ?_
    refine q2_lst (ls' := [some (.ref 159), some (.int p0), some (.int p1), some (.int p2), some (.int p3), some (.int l5), some (.int l6), some (.long (l7 * l5.toInt64)), none, some (.int l9), none, none, none, none, none]) o_M_tampered_77 (Nat.le_of_ble_eq_true rfl) rfl ?_
    refine q2_inc (v := (l9 + 1)) (ls' := [some (.ref 159), some (.int p0), some (.int p1), some (.int p2), some (.int p3), some (.int l5), some (.int l6), some (.long (l7 * l5.toInt64)), none, some (.int (l9 + 1)), none, none, none, none, none]) o_M_tampered_79 rfl rfl (Nat.le_of_ble_eq_true rfl) rfl ?_
    refine q_goto o_M_tampered_82 ?_
    exact h3

set_option maxRecDepth 20000 in
theorem v_M_tampered_92 {G : q_G} {d : Nat} {σ : q_S} {Q : Option Value → q_S → Prop} {p0 : Int32} {p1 : Int32} {p2 : Int32} {p3 : Int32} {l5 : Int32} {l6 : Int32} {l7 : Int64} {l9 : Int64} {l11 : Int32}  (hs : q_Sh σ) (h : ((p2 < l11 → (¬ l7 = 0 ∧ Q (some (.int (((l9 * 1000000) / l7).toInt32))) σ)) ∧ (¬ p2 < l11 → q_At G X_M_tampered (d + 1) 0 0 104 [some (.ref 159), some (.int p0), some (.int p1), some (.int p2), some (.int p3), some (.int l5), some (.int l6), some (.long l7), none, some (.long l9), none, some (.int l11), some (.long 1), none, some (.int 0)] [] σ Q))) : q_At G X_M_tampered (d + 1) 0 0 92 [some (.ref 159), some (.int p0), some (.int p1), some (.int p2), some (.int p3), some (.int l5), some (.int l6), some (.long l7), none, some (.long l9), none, some (.int l11), none, none, none] [] σ Q := by
  refine q_iload o_M_tampered_92 rfl ?_
  refine q_iload_n o_M_tampered_94 rfl ?_
  refine q_icmp_gt o_M_tampered_95 (fun c1 => ?_) (fun c1 => ?_)
  · have h2 := h.1 c1
    refine q_lload o_M_tampered_184 rfl ?_
    refine q_ldc2 o_M_tampered_186 n_M_431 ?_
    refine q_lmul o_M_tampered_189 ?_
    refine q_lload o_M_tampered_190 rfl ?_
    obtain ⟨h3n, h3⟩ := h2
    refine q_ldiv o_M_tampered_192 h3n ?_
    refine q_l2i o_M_tampered_193 ?_
    exact q_ire o_M_tampered_194 rfl h3
  · have h4 := h.2 c1
    refine q_lconst (v := 1) o_M_tampered_98 (by decide) ?_
    refine q2_lst (ls' := [some (.ref 159), some (.int p0), some (.int p1), some (.int p2), some (.int p3), some (.int l5), some (.int l6), some (.long l7), none, some (.long l9), none, some (.int l11), some (.long 1), none, none]) o_M_tampered_99 (Nat.le_of_ble_eq_true rfl) rfl ?_
    refine q_iconst (v := 0) o_M_tampered_101 (by decide) ?_
    refine q2_ist (ls' := [some (.ref 159), some (.int p0), some (.int p1), some (.int p2), some (.int p3), some (.int l5), some (.int l6), some (.long l7), none, some (.long l9), none, some (.int l11), some (.long 1), none, some (.int 0)]) o_M_tampered_102 (Nat.le_of_ble_eq_true rfl) rfl ?_
    exact h4

set_option maxRecDepth 20000 in
theorem v_M_tampered_104 {G : q_G} {d : Nat} {σ : q_S} {Q : Option Value → q_S → Prop} {p0 : Int32} {p1 : Int32} {p2 : Int32} {p3 : Int32} {l5 : Int32} {l6 : Int32} {l7 : Int64} {l9 : Int64} {l11 : Int32} {l12 : Int64} {l14 : Int32}  (hs : q_Sh σ) (h : ((p2 ≤ l14 → q_At G X_M_tampered (d + 1) 0 0 142 [some (.ref 159), some (.int p0), some (.int p1), some (.int p2), some (.int p3), some (.int l5), some (.int l6), some (.long l7), none, some (.long l9), none, some (.int l11), some (.long l12), none, some (.int 0)] [] σ Q) ∧ (¬ p2 ≤ l14 → q_At G X_M_tampered (d + 1) 0 0 104 [some (.ref 159), some (.int p0), some (.int p1), some (.int p2), some (.int p3), some (.int l5), some (.int l6), some (.long l7), none, some (.long l9), none, some (.int l11), some (.long (l12 * (if l11 ≤ l14 then (l5 - l6) else l6).toInt64)), none, some (.int (l14 + 1))] [] σ Q))) : q_At G X_M_tampered (d + 1) 0 0 104 [some (.ref 159), some (.int p0), some (.int p1), some (.int p2), some (.int p3), some (.int l5), some (.int l6), some (.long l7), none, some (.long l9), none, some (.int l11), some (.long l12), none, some (.int l14)] [] σ Q := by
  refine q_iload o_M_tampered_104 rfl ?_
  refine q_iload_n o_M_tampered_106 rfl ?_
  refine q_icmp_ge o_M_tampered_107 (fun c1 => ?_) (fun c1 => ?_)
  · have h2 := h.1 c1
    refine q_iconst (v := 0) o_M_tampered_139 (by decide) ?_
    refine q2_ist (ls' := [some (.ref 159), some (.int p0), some (.int p1), some (.int p2), some (.int p3), some (.int l5), some (.int l6), some (.long l7), none, some (.long l9), none, some (.int l11), some (.long l12), none, some (.int 0)]) o_M_tampered_140 (Nat.le_of_ble_eq_true rfl) rfl ?_
    exact h2
  · have h3 := h.2 c1
    refine q_lload o_M_tampered_110 rfl ?_
    refine q_iload o_M_tampered_112 rfl ?_
    refine q_iload o_M_tampered_114 rfl ?_
    have hJ : ∀ vJ : Int32, vJ = (if l11 ≤ l14 then (l5 - l6) else l6) → q_At G X_M_tampered (d + 1) 0 0 129 [some (.ref 159), some (.int p0), some (.int p1), some (.int p2), some (.int p3), some (.int l5), some (.int l6), some (.long l7), none, some (.long l9), none, some (.int l11), some (.long l12), none, some (.int l14)] [.int vJ, .long l12] σ Q := by
      intro vJ eJ
      rw [eJ]
      clear eJ vJ
      refine q_i2l o_M_tampered_129 ?_
      refine q_lmul o_M_tampered_130 ?_
      refine q2_lst (ls' := [some (.ref 159), some (.int p0), some (.int p1), some (.int p2), some (.int p3), some (.int l5), some (.int l6), some (.long l7), none, some (.long l9), none, some (.int l11), some (.long (l12 * (if l11 ≤ l14 then (l5 - l6) else l6).toInt64)), none, some (.int l14)]) o_M_tampered_131 (Nat.le_of_ble_eq_true rfl) rfl ?_
      refine q2_inc (v := (l14 + 1)) (ls' := [some (.ref 159), some (.int p0), some (.int p1), some (.int p2), some (.int p3), some (.int l5), some (.int l6), some (.long l7), none, some (.long l9), none, some (.int l11), some (.long (l12 * (if l11 ≤ l14 then (l5 - l6) else l6).toInt64)), none, some (.int (l14 + 1))]) o_M_tampered_133 rfl rfl (Nat.le_of_ble_eq_true rfl) rfl ?_
      refine q_goto o_M_tampered_136 ?_
      exact h3
    refine q_icmp_ge o_M_tampered_116 (fun c4 => ?_) (fun c4 => ?_)
    · refine q_iload o_M_tampered_124 rfl ?_
      refine q_iload o_M_tampered_126 rfl ?_
      refine q_isub o_M_tampered_128 ?_
      exact hJ _ (Eq.symm (if_pos c4))
    · refine q_iload o_M_tampered_119 rfl ?_
      refine q_goto o_M_tampered_121 ?_
      exact hJ _ (Eq.symm (if_neg c4))

set_option maxRecDepth 20000 in
theorem v_M_tampered_142 {G : q_G} {d : Nat} {σ : q_S} {Q : Option Value → q_S → Prop} {p0 : Int32} {p1 : Int32} {p2 : Int32} {p3 : Int32} {l5 : Int32} {l6 : Int32} {l7 : Int64} {l9 : Int64} {l11 : Int32} {l12 : Int64} {l14 : Int32}  (hs : q_Sh σ) (h : ((l11 ≤ l14 → q_At G X_M_tampered (d + 1) 0 0 92 [some (.ref 159), some (.int p0), some (.int p1), some (.int p2), some (.int p3), some (.int l5), some (.int l6), some (.long l7), none, some (.long (l9 + l12)), none, some (.int (l11 + 1)), none, none, none] [] σ Q) ∧ (¬ l11 ≤ l14 → (¬ (l14 + 1).toInt64 = 0 ∧ q_At G X_M_tampered (d + 1) 0 0 142 [some (.ref 159), some (.int p0), some (.int p1), some (.int p2), some (.int p3), some (.int l5), some (.int l6), some (.long l7), none, some (.long l9), none, some (.int l11), some (.long ((l12 * (p2 - l14).toInt64) / (l14 + 1).toInt64)), none, some (.int (l14 + 1))] [] σ Q)))) : q_At G X_M_tampered (d + 1) 0 0 142 [some (.ref 159), some (.int p0), some (.int p1), some (.int p2), some (.int p3), some (.int l5), some (.int l6), some (.long l7), none, some (.long l9), none, some (.int l11), some (.long l12), none, some (.int l14)] [] σ Q := by
  refine q_iload o_M_tampered_142 rfl ?_
  refine q_iload o_M_tampered_144 rfl ?_
  refine q_icmp_ge o_M_tampered_146 (fun c1 => ?_) (fun c1 => ?_)
  · have h2 := h.1 c1
    refine q_lload o_M_tampered_171 rfl ?_
    refine q_lload o_M_tampered_173 rfl ?_
    refine q_ladd o_M_tampered_175 ?_
    refine q2_lst (ls' := [some (.ref 159), some (.int p0), some (.int p1), some (.int p2), some (.int p3), some (.int l5), some (.int l6), some (.long l7), none, some (.long (l9 + l12)), none, some (.int l11), some (.long l12), none, some (.int l14)]) o_M_tampered_176 (Nat.le_of_ble_eq_true rfl) rfl ?_
    refine q2_inc (v := (l11 + 1)) (ls' := [some (.ref 159), some (.int p0), some (.int p1), some (.int p2), some (.int p3), some (.int l5), some (.int l6), some (.long l7), none, some (.long (l9 + l12)), none, some (.int (l11 + 1)), some (.long l12), none, some (.int l14)]) o_M_tampered_178 rfl rfl (Nat.le_of_ble_eq_true rfl) rfl ?_
    refine q_goto o_M_tampered_181 ?_
    exact q_weak (ls' := [some (.ref 159), some (.int p0), some (.int p1), some (.int p2), some (.int p3), some (.int l5), some (.int l6), some (.long l7), none, some (.long (l9 + l12)), none, some (.int (l11 + 1)), none, none, none]) (And.intro rfl (And.intro rfl (And.intro rfl (And.intro rfl (And.intro rfl (And.intro rfl (And.intro rfl (And.intro rfl (And.intro rfl (And.intro rfl trivial)))))))))) h2
  · have h3 := h.2 c1
    refine q_lload o_M_tampered_149 rfl ?_
    refine q_iload_n o_M_tampered_151 rfl ?_
    refine q_iload o_M_tampered_152 rfl ?_
    refine q_isub o_M_tampered_154 ?_
    refine q_i2l o_M_tampered_155 ?_
    refine q_lmul o_M_tampered_156 ?_
    refine q_iload o_M_tampered_157 rfl ?_
    refine q_iconst (v := 1) o_M_tampered_159 (by decide) ?_
    refine q_iadd o_M_tampered_160 ?_
    refine q_i2l o_M_tampered_161 ?_
    obtain ⟨h4n, h4⟩ := h3
    refine q_ldiv o_M_tampered_162 h4n ?_
    refine q2_lst (ls' := [some (.ref 159), some (.int p0), some (.int p1), some (.int p2), some (.int p3), some (.int l5), some (.int l6), some (.long l7), none, some (.long l9), none, some (.int l11), some (.long ((l12 * (p2 - l14).toInt64) / (l14 + 1).toInt64)), none, some (.int l14)]) o_M_tampered_163 (Nat.le_of_ble_eq_true rfl) rfl ?_
    refine q2_inc (v := (l14 + 1)) (ls' := [some (.ref 159), some (.int p0), some (.int p1), some (.int p2), some (.int p3), some (.int l5), some (.int l6), some (.long l7), none, some (.long l9), none, some (.int l11), some (.long ((l12 * (p2 - l14).toInt64) / (l14 + 1).toInt64)), none, some (.int (l14 + 1))]) o_M_tampered_165 rfl rfl (Nat.le_of_ble_eq_true rfl) rfl ?_
    refine q_goto o_M_tampered_168 ?_
    exact h4

set_option maxRecDepth 20000 in
theorem v_M_drawsYears_0 {G : q_G} {d : Nat} {σ : q_S} {Q : Option Value → q_S → Prop}   (hs : q_Sh σ) (h : (((q_I σ 165 1) ≤ 1 → q_Call G d 0 0 X_M_draws [.ref 159, .int 1804] σ (q_ri (fun x6 σ4 => Q none σ4))) ∧ (¬ (q_I σ 165 1) ≤ 1 → q_Call G d 0 0 X_M_drawBelow [.ref 159, .int (q_I σ 165 1)] σ (q_ri (fun x11 σ9 => q_Call G d 0 0 X_M_drawBelow [.ref 159, .int (q_I σ9 165 1)] σ9 (q_ri (fun x15 σ13 => q_Call G d 0 0 X_M_mayLend [.ref 159, .int 1804, .int x11, .int x15, .int 1] σ13 (q_ri (fun x19 σ17 => ((x19 = 0 → q_Call G d 0 0 X_M_drawBelow [.ref 159, .int 10] σ17 (q_ri (fun x25 σ23 => ((¬ x25 = 0 → q_Call G d 0 0 X_M_draws [.ref 159, .int 1804] σ23 (q_ri (fun x31 σ29 => Q none σ29))) ∧ (x25 = 0 → q_Call G d 0 0 X_M_drawBelow [.ref 159, .int (q_I σ23 165 1)] σ23 (q_ri (fun x36 σ34 => q_Call G d 0 0 X_M_drawBelow [.ref 159, .int (q_I σ34 165 1)] σ34 (q_ri (fun x40 σ38 => q_Call G d 0 0 X_M_swaps [.ref 159, .int 1804, .int x36, .int x40] σ38 (q_rv (fun σ42 => q_Call G d 0 0 X_M_draws [.ref 159, .int 1804] σ42 (q_ri (fun x47 σ45 => Q none σ45))))))))))))) ∧ (¬ x19 = 0 → q_Call G d 0 0 X_M_lends [.ref 159, .int 1804, .int x11, .int x15, .int 1] σ17 (q_rv (fun σ50 => q_Call G d 0 0 X_M_drawBelow [.ref 159, .int 10] σ50 (q_ri (fun x55 σ53 => ((¬ x55 = 0 → q_Call G d 0 0 X_M_draws [.ref 159, .int 1804] σ53 (q_ri (fun x61 σ59 => Q none σ59))) ∧ (x55 = 0 → q_Call G d 0 0 X_M_drawBelow [.ref 159, .int (q_I σ53 165 1)] σ53 (q_ri (fun x66 σ64 => q_Call G d 0 0 X_M_drawBelow [.ref 159, .int (q_I σ64 165 1)] σ64 (q_ri (fun x70 σ68 => q_Call G d 0 0 X_M_swaps [.ref 159, .int 1804, .int x66, .int x70] σ68 (q_rv (fun σ72 => q_Call G d 0 0 X_M_draws [.ref 159, .int 1804] σ72 (q_ri (fun x77 σ75 => Q none σ75))))))))))))))))))))))))) : q_At G X_M_drawsYears (d + 1) 0 0 0 [some (.ref 159), none, none, none, none] [] σ Q := by
  refine q_aload_n o_M_drawsYears_0 rfl ?_
  refine q2_M_families hs o_M_drawsYears_1 k_M_309 (Nat.le_of_ble_eq_true rfl) ?_
  refine q_iconst (v := 1) o_M_drawsYears_4 (by decide) ?_
  refine q_icmp_le o_M_drawsYears_5 (fun c1 => ?_) (fun c1 => ?_)
  · have h2 := h.1 c1
    refine q_aload_n o_M_drawsYears_87 rfl ?_
    refine q_sipush (v := 1804) o_M_drawsYears_88 (by decide) ?_
    refine q2_callVi _ (a := 159) (As := [.int 1804]) (st := []) hs o_M_drawsYears_91 k_M_387 rfl rfl (Nat.le_of_ble_eq_true rfl) h2 (fun x6 σ4 hs5 h3 => ?_)
    refine q_pop o_M_drawsYears_94 rfl ?_
    exact q_vre o_M_drawsYears_95 rfl h3
  · have h7 := h.2 c1
    refine q_aload_n o_M_drawsYears_8 rfl ?_
    refine q_aload_n o_M_drawsYears_9 rfl ?_
    refine q2_M_families hs o_M_drawsYears_10 k_M_309 (Nat.le_of_ble_eq_true rfl) ?_
    refine q2_callVi _ (a := 159) (As := [.int (q_I σ 165 1)]) (st := []) hs o_M_drawsYears_13 k_M_381 rfl rfl (Nat.le_of_ble_eq_true rfl) h7 (fun x11 σ9 hs10 h8 => ?_)
    refine q2_istn (ls' := [some (.ref 159), some (.int x11), none, none, none]) o_M_drawsYears_16 (Nat.le_of_ble_eq_true rfl) rfl ?_
    refine q_aload_n o_M_drawsYears_17 rfl ?_
    refine q_aload_n o_M_drawsYears_18 rfl ?_
    refine q2_M_families hs10 o_M_drawsYears_19 k_M_309 (Nat.le_of_ble_eq_true rfl) ?_
    refine q2_callVi _ (a := 159) (As := [.int (q_I σ9 165 1)]) (st := []) hs10 o_M_drawsYears_22 k_M_381 rfl rfl (Nat.le_of_ble_eq_true rfl) h8 (fun x15 σ13 hs14 h12 => ?_)
    refine q2_istn (ls' := [some (.ref 159), some (.int x11), some (.int x15), none, none]) o_M_drawsYears_25 (Nat.le_of_ble_eq_true rfl) rfl ?_
    refine q_aload_n o_M_drawsYears_26 rfl ?_
    refine q_sipush (v := 1804) o_M_drawsYears_27 (by decide) ?_
    refine q_iload_n o_M_drawsYears_30 rfl ?_
    refine q_iload_n o_M_drawsYears_31 rfl ?_
    refine q_iconst (v := 1) o_M_drawsYears_32 (by decide) ?_
    refine q2_callVi _ (a := 159) (As := [.int 1804, .int x11, .int x15, .int 1]) (st := []) hs14 o_M_drawsYears_33 k_M_397 rfl rfl (Nat.le_of_ble_eq_true rfl) h12 (fun x19 σ17 hs18 h16 => ?_)
    refine q_if_eq o_M_drawsYears_36 (fun c20 => ?_) (fun c20 => ?_)
    · have h21 := h16.1 c20
      refine q_aload_n o_M_drawsYears_49 rfl ?_
      refine q_bipush (v := 10) o_M_drawsYears_50 (by decide) ?_
      refine q2_callVi _ (a := 159) (As := [.int 10]) (st := []) hs18 o_M_drawsYears_52 k_M_381 rfl rfl (Nat.le_of_ble_eq_true rfl) h21 (fun x25 σ23 hs24 h22 => ?_)
      refine q_if_ne o_M_drawsYears_55 (fun c26 => ?_) (fun c26 => ?_)
      · have h27 := h22.1 c26
        refine q_aload_n o_M_drawsYears_87 rfl ?_
        refine q_sipush (v := 1804) o_M_drawsYears_88 (by decide) ?_
        refine q2_callVi _ (a := 159) (As := [.int 1804]) (st := []) hs24 o_M_drawsYears_91 k_M_387 rfl rfl (Nat.le_of_ble_eq_true rfl) h27 (fun x31 σ29 hs30 h28 => ?_)
        refine q_pop o_M_drawsYears_94 rfl ?_
        exact q_vre o_M_drawsYears_95 rfl h28
      · have h32 := h22.2 c26
        refine q_aload_n o_M_drawsYears_58 rfl ?_
        refine q_aload_n o_M_drawsYears_59 rfl ?_
        refine q2_M_families hs24 o_M_drawsYears_60 k_M_309 (Nat.le_of_ble_eq_true rfl) ?_
        refine q2_callVi _ (a := 159) (As := [.int (q_I σ23 165 1)]) (st := []) hs24 o_M_drawsYears_63 k_M_381 rfl rfl (Nat.le_of_ble_eq_true rfl) h32 (fun x36 σ34 hs35 h33 => ?_)
        refine q2_istn (ls' := [some (.ref 159), some (.int x11), some (.int x15), some (.int x36), none]) o_M_drawsYears_66 (Nat.le_of_ble_eq_true rfl) rfl ?_
        refine q_aload_n o_M_drawsYears_67 rfl ?_
        refine q_aload_n o_M_drawsYears_68 rfl ?_
        refine q2_M_families hs35 o_M_drawsYears_69 k_M_309 (Nat.le_of_ble_eq_true rfl) ?_
        refine q2_callVi _ (a := 159) (As := [.int (q_I σ34 165 1)]) (st := []) hs35 o_M_drawsYears_72 k_M_381 rfl rfl (Nat.le_of_ble_eq_true rfl) h33 (fun x40 σ38 hs39 h37 => ?_)
        refine q2_ist (ls' := [some (.ref 159), some (.int x11), some (.int x15), some (.int x36), some (.int x40)]) o_M_drawsYears_75 (Nat.le_of_ble_eq_true rfl) rfl ?_
        refine q_aload_n o_M_drawsYears_77 rfl ?_
        refine q_sipush (v := 1804) o_M_drawsYears_78 (by decide) ?_
        refine q_iload_n o_M_drawsYears_81 rfl ?_
        refine q_iload o_M_drawsYears_82 rfl ?_
        refine q2_callVv _ (a := 159) (As := [.int 1804, .int x36, .int x40]) (st := []) hs39 o_M_drawsYears_84 k_M_390 rfl rfl (Nat.le_of_ble_eq_true rfl) h37 (fun σ42 hs43 h41 => ?_)
        refine q_aload_n o_M_drawsYears_87 rfl ?_
        refine q_sipush (v := 1804) o_M_drawsYears_88 (by decide) ?_
        refine q2_callVi _ (a := 159) (As := [.int 1804]) (st := []) hs43 o_M_drawsYears_91 k_M_387 rfl rfl (Nat.le_of_ble_eq_true rfl) h41 (fun x47 σ45 hs46 h44 => ?_)
        refine q_pop o_M_drawsYears_94 rfl ?_
        exact q_vre o_M_drawsYears_95 rfl h44
    · have h48 := h16.2 c20
      refine q_aload_n o_M_drawsYears_39 rfl ?_
      refine q_sipush (v := 1804) o_M_drawsYears_40 (by decide) ?_
      refine q_iload_n o_M_drawsYears_43 rfl ?_
      refine q_iload_n o_M_drawsYears_44 rfl ?_
      refine q_iconst (v := 1) o_M_drawsYears_45 (by decide) ?_
      refine q2_callVv _ (a := 159) (As := [.int 1804, .int x11, .int x15, .int 1]) (st := []) hs18 o_M_drawsYears_46 k_M_401 rfl rfl (Nat.le_of_ble_eq_true rfl) h48 (fun σ50 hs51 h49 => ?_)
      refine q_aload_n o_M_drawsYears_49 rfl ?_
      refine q_bipush (v := 10) o_M_drawsYears_50 (by decide) ?_
      refine q2_callVi _ (a := 159) (As := [.int 10]) (st := []) hs51 o_M_drawsYears_52 k_M_381 rfl rfl (Nat.le_of_ble_eq_true rfl) h49 (fun x55 σ53 hs54 h52 => ?_)
      refine q_if_ne o_M_drawsYears_55 (fun c56 => ?_) (fun c56 => ?_)
      · have h57 := h52.1 c56
        refine q_aload_n o_M_drawsYears_87 rfl ?_
        refine q_sipush (v := 1804) o_M_drawsYears_88 (by decide) ?_
        refine q2_callVi _ (a := 159) (As := [.int 1804]) (st := []) hs54 o_M_drawsYears_91 k_M_387 rfl rfl (Nat.le_of_ble_eq_true rfl) h57 (fun x61 σ59 hs60 h58 => ?_)
        refine q_pop o_M_drawsYears_94 rfl ?_
        exact q_vre o_M_drawsYears_95 rfl h58
      · have h62 := h52.2 c56
        refine q_aload_n o_M_drawsYears_58 rfl ?_
        refine q_aload_n o_M_drawsYears_59 rfl ?_
        refine q2_M_families hs54 o_M_drawsYears_60 k_M_309 (Nat.le_of_ble_eq_true rfl) ?_
        refine q2_callVi _ (a := 159) (As := [.int (q_I σ53 165 1)]) (st := []) hs54 o_M_drawsYears_63 k_M_381 rfl rfl (Nat.le_of_ble_eq_true rfl) h62 (fun x66 σ64 hs65 h63 => ?_)
        refine q2_istn (ls' := [some (.ref 159), some (.int x11), some (.int x15), some (.int x66), none]) o_M_drawsYears_66 (Nat.le_of_ble_eq_true rfl) rfl ?_
        refine q_aload_n o_M_drawsYears_67 rfl ?_
        refine q_aload_n o_M_drawsYears_68 rfl ?_
        refine q2_M_families hs65 o_M_drawsYears_69 k_M_309 (Nat.le_of_ble_eq_true rfl) ?_
        refine q2_callVi _ (a := 159) (As := [.int (q_I σ64 165 1)]) (st := []) hs65 o_M_drawsYears_72 k_M_381 rfl rfl (Nat.le_of_ble_eq_true rfl) h63 (fun x70 σ68 hs69 h67 => ?_)
        refine q2_ist (ls' := [some (.ref 159), some (.int x11), some (.int x15), some (.int x66), some (.int x70)]) o_M_drawsYears_75 (Nat.le_of_ble_eq_true rfl) rfl ?_
        refine q_aload_n o_M_drawsYears_77 rfl ?_
        refine q_sipush (v := 1804) o_M_drawsYears_78 (by decide) ?_
        refine q_iload_n o_M_drawsYears_81 rfl ?_
        refine q_iload o_M_drawsYears_82 rfl ?_
        refine q2_callVv _ (a := 159) (As := [.int 1804, .int x66, .int x70]) (st := []) hs69 o_M_drawsYears_84 k_M_390 rfl rfl (Nat.le_of_ble_eq_true rfl) h67 (fun σ72 hs73 h71 => ?_)
        refine q_aload_n o_M_drawsYears_87 rfl ?_
        refine q_sipush (v := 1804) o_M_drawsYears_88 (by decide) ?_
        refine q2_callVi _ (a := 159) (As := [.int 1804]) (st := []) hs73 o_M_drawsYears_91 k_M_387 rfl rfl (Nat.le_of_ble_eq_true rfl) h71 (fun x77 σ75 hs76 h74 => ?_)
        refine q_pop o_M_drawsYears_94 rfl ?_
        exact q_vre o_M_drawsYears_95 rfl h74

set_option maxRecDepth 20000 in
theorem v_M_centuries_0 {G : q_G} {d : Nat} {σ : q_S} {Q : Option Value → q_S → Prop} {p0 : Int32} {p1 : Int32} {p2 : Int32}  (hs : q_Sh σ) (h : q_Call G d 0 0 X_M_within [.int p0, .int 0, .int 9999] (q_setI σ 159 0 0) (q_ri (fun x4 σ2 => ((x4 = 0 → Q (some (.int (-1))) σ2) ∧ (¬ x4 = 0 → q_Call G d 0 0 X_M_within [.int p1, .int 1, .int 60] σ2 (q_ri (fun x11 σ9 => ((x11 = 0 → Q (some (.int (-1))) σ9) ∧ (¬ x11 = 0 → q_Call G d 0 0 X_M_within [.int p2, .int 0, .int 2] σ9 (q_ri (fun x18 σ16 => ((¬ x18 = 0 → q_Call G d 0 0 X_M_copies [.ref 159, .int 0, .int 1804, .int 50] σ16 (q_rv (fun σ22 => q_At G X_M_centuries (d + 1) 0 0 62 [some (.ref 159), some (.int p0), some (.int p1), some (.int p2), some (.int 0), some (.int 0), some (.int 0)] [] (q_setL σ22 159 28 p0.toInt64) Q))) ∧ (x18 = 0 → Q (some (.int (-1))) σ16))))))))))))) : q_At G X_M_centuries (d + 1) 0 0 0 [some (.ref 159), some (.int p0), some (.int p1), some (.int p2), none, none, none] [] σ Q := by
  refine q_aload_n o_M_centuries_0 rfl ?_
  refine q_iconst (v := 0) o_M_centuries_1 (by decide) ?_
  refine q2_putI hs o_M_centuries_2 fp_M_1 rfl rfl rfl ?_
  refine q_iload_n o_M_centuries_5 rfl ?_
  refine q_iconst (v := 0) o_M_centuries_6 (by decide) ?_
  refine q_sipush (v := 9999) o_M_centuries_7 (by decide) ?_
  refine q2_callSi _ (As := [.int p0, .int 0, .int 9999]) (st := []) hs o_M_centuries_10 k_M_227 rfl (Nat.le_of_ble_eq_true rfl) h (fun x4 σ2 hs3 h1 => ?_)
  refine q_if_eq o_M_centuries_13 (fun c5 => ?_) (fun c5 => ?_)
  · have h6 := h1.1 c5
    refine q_iconst (v := (-1)) o_M_centuries_35 (by decide) ?_
    exact q_ire o_M_centuries_36 rfl h6
  · have h7 := h1.2 c5
    refine q_iload_n o_M_centuries_16 rfl ?_
    refine q_iconst (v := 1) o_M_centuries_17 (by decide) ?_
    refine q_bipush (v := 60) o_M_centuries_18 (by decide) ?_
    refine q2_callSi _ (As := [.int p1, .int 1, .int 60]) (st := []) hs3 o_M_centuries_20 k_M_227 rfl (Nat.le_of_ble_eq_true rfl) h7 (fun x11 σ9 hs10 h8 => ?_)
    refine q_if_eq o_M_centuries_23 (fun c12 => ?_) (fun c12 => ?_)
    · have h13 := h8.1 c12
      refine q_iconst (v := (-1)) o_M_centuries_35 (by decide) ?_
      exact q_ire o_M_centuries_36 rfl h13
    · have h14 := h8.2 c12
      refine q_iload_n o_M_centuries_26 rfl ?_
      refine q_iconst (v := 0) o_M_centuries_27 (by decide) ?_
      refine q_iconst (v := 2) o_M_centuries_28 (by decide) ?_
      refine q2_callSi _ (As := [.int p2, .int 0, .int 2]) (st := []) hs10 o_M_centuries_29 k_M_227 rfl (Nat.le_of_ble_eq_true rfl) h14 (fun x18 σ16 hs17 h15 => ?_)
      refine q_if_ne o_M_centuries_32 (fun c19 => ?_) (fun c19 => ?_)
      · have h20 := h15.1 c19
        refine q_aload_n o_M_centuries_37 rfl ?_
        refine q_iconst (v := 0) o_M_centuries_38 (by decide) ?_
        refine q_sipush (v := 1804) o_M_centuries_39 (by decide) ?_
        refine q_bipush (v := 50) o_M_centuries_42 (by decide) ?_
        refine q2_callVv _ (a := 159) (As := [.int 0, .int 1804, .int 50]) (st := []) hs17 o_M_centuries_44 k_M_325 rfl rfl (Nat.le_of_ble_eq_true rfl) h20 (fun σ22 hs23 h21 => ?_)
        refine q_aload_n o_M_centuries_47 rfl ?_
        refine q_iload_n o_M_centuries_48 rfl ?_
        refine q_i2l o_M_centuries_49 ?_
        refine q2_putL hs23 o_M_centuries_50 fp_M_366 rfl rfl rfl ?_
        refine q_iconst (v := 0) o_M_centuries_53 (by decide) ?_
        refine q2_ist (ls' := [some (.ref 159), some (.int p0), some (.int p1), some (.int p2), some (.int 0), none, none]) o_M_centuries_54 (Nat.le_of_ble_eq_true rfl) rfl ?_
        refine q_iconst (v := 0) o_M_centuries_56 (by decide) ?_
        refine q2_ist (ls' := [some (.ref 159), some (.int p0), some (.int p1), some (.int p2), some (.int 0), some (.int 0), none]) o_M_centuries_57 (Nat.le_of_ble_eq_true rfl) rfl ?_
        refine q_iconst (v := 0) o_M_centuries_59 (by decide) ?_
        refine q2_ist (ls' := [some (.ref 159), some (.int p0), some (.int p1), some (.int p2), some (.int 0), some (.int 0), some (.int 0)]) o_M_centuries_60 (Nat.le_of_ble_eq_true rfl) rfl ?_
        exact h21
      · have h24 := h15.2 c19
        refine q_iconst (v := (-1)) o_M_centuries_35 (by decide) ?_
        exact q_ire o_M_centuries_36 rfl h24

set_option maxRecDepth 20000 in
theorem v_M_centuries_62 {G : q_G} {d : Nat} {σ : q_S} {Q : Option Value → q_S → Prop} {p0 : Int32} {p1 : Int32} {p2 : Int32} {l4 : Int32} {l5 : Int32} {l6 : Int32}  (hs : q_Sh σ) (h : ((p1 ≤ l6 → ((¬ p2 = 0 → ((¬ p2 = 1 → Q (some (.int ((q_I σ 175 1853) - (q_I σ 175 49)))) σ) ∧ (p2 = 1 → Q (some (.int l5)) σ))) ∧ (p2 = 0 → Q (some (.int l4)) σ))) ∧ (¬ p1 ≤ l6 → q_Call G d 0 0 X_M_drawsYears [.ref 159] σ (q_rv (fun σ15 => q_Call G d 0 0 X_M_contentBy [.ref 159, .int 1804] σ15 (q_ri (fun x20 σ18 => q_Call G d 0 0 X_M_brokenBy [.ref 159, .int 1804] σ18 (q_ri (fun x24 σ22 => q_Call G d 0 0 X_M_bits [.int x24] σ22 (q_ri (fun x28 σ26 => q_At G X_M_centuries (d + 1) 0 0 62 [some (.ref 159), some (.int p0), some (.int p1), some (.int p2), some (.int (l4 + x20)), some (.int (l5 + x28)), some (.int (l6 + 1))] [] σ26 Q))))))))))) : q_At G X_M_centuries (d + 1) 0 0 62 [some (.ref 159), some (.int p0), some (.int p1), some (.int p2), some (.int l4), some (.int l5), some (.int l6)] [] σ Q := by
  refine q_iload o_M_centuries_62 rfl ?_
  refine q_iload_n o_M_centuries_64 rfl ?_
  refine q_icmp_ge o_M_centuries_65 (fun c1 => ?_) (fun c1 => ?_)
  · have h2 := h.1 c1
    refine q_iload_n o_M_centuries_105 rfl ?_
    refine q_if_ne o_M_centuries_106 (fun c3 => ?_) (fun c3 => ?_)
    · have h4 := h2.1 c3
      refine q_iload_n o_M_centuries_114 rfl ?_
      refine q_iconst (v := 1) o_M_centuries_115 (by decide) ?_
      refine q_icmp_ne o_M_centuries_116 (fun c5 => ?_) (fun c5 => ?_)
      · have h6 := h4.1 c5
        refine q_aload_n o_M_centuries_124 rfl ?_
        refine q2_getR hs o_M_centuries_125 f_M_133 rfl (fz_159_24 hs) ?_
        refine q_sipush (v := 1853) o_M_centuries_128 (by decide) ?_
        refine q2_iald (i := 1853) hs o_M_centuries_131 rfl rfl (by decide) (by decide) ?_
        refine q_aload_n o_M_centuries_132 rfl ?_
        refine q2_getR hs o_M_centuries_133 f_M_133 rfl (fz_159_24 hs) ?_
        refine q_bipush (v := 49) o_M_centuries_136 (by decide) ?_
        refine q2_iald (i := 49) hs o_M_centuries_138 rfl rfl (by decide) (by decide) ?_
        refine q_isub o_M_centuries_139 ?_
        exact q_ire o_M_centuries_140 rfl h6
      · have h11 := h4.2 c5
        refine q_iload o_M_centuries_119 rfl ?_
        refine q_goto o_M_centuries_121 ?_
        exact q_ire o_M_centuries_140 rfl h11
    · have h12 := h2.2 c3
      refine q_iload o_M_centuries_109 rfl ?_
      refine q_goto o_M_centuries_111 ?_
      exact q_ire o_M_centuries_140 rfl h12
  · have h13 := h.2 c1
    refine q_aload_n o_M_centuries_68 rfl ?_
    refine q2_callVv _ (a := 159) (As := []) (st := []) hs o_M_centuries_69 k_M_469 rfl rfl (Nat.le_of_ble_eq_true rfl) h13 (fun σ15 hs16 h14 => ?_)
    refine q_iload o_M_centuries_72 rfl ?_
    refine q_aload_n o_M_centuries_74 rfl ?_
    refine q_sipush (v := 1804) o_M_centuries_75 (by decide) ?_
    refine q2_callVi _ (a := 159) (As := [.int 1804]) (st := [.int l4]) hs16 o_M_centuries_78 k_M_450 rfl rfl (Nat.le_of_ble_eq_true rfl) h14 (fun x20 σ18 hs19 h17 => ?_)
    refine q_iadd o_M_centuries_81 ?_
    refine q2_ist (ls' := [some (.ref 159), some (.int p0), some (.int p1), some (.int p2), some (.int (l4 + x20)), some (.int l5), some (.int l6)]) o_M_centuries_82 (Nat.le_of_ble_eq_true rfl) rfl ?_
    refine q_iload o_M_centuries_84 rfl ?_
    refine q_aload_n o_M_centuries_86 rfl ?_
    refine q_sipush (v := 1804) o_M_centuries_87 (by decide) ?_
    refine q2_callVi _ (a := 159) (As := [.int 1804]) (st := [.int l5]) hs19 o_M_centuries_90 k_M_413 rfl rfl (Nat.le_of_ble_eq_true rfl) h17 (fun x24 σ22 hs23 h21 => ?_)
    refine q2_callSi _ (As := [.int x24]) (st := [.int l5]) hs23 o_M_centuries_93 k_M_472 rfl (Nat.le_of_ble_eq_true rfl) h21 (fun x28 σ26 hs27 h25 => ?_)
    refine q_iadd o_M_centuries_96 ?_
    refine q2_ist (ls' := [some (.ref 159), some (.int p0), some (.int p1), some (.int p2), some (.int (l4 + x20)), some (.int (l5 + x28)), some (.int l6)]) o_M_centuries_97 (Nat.le_of_ble_eq_true rfl) rfl ?_
    refine q2_inc (v := (l6 + 1)) (ls' := [some (.ref 159), some (.int p0), some (.int p1), some (.int p2), some (.int (l4 + x20)), some (.int (l5 + x28)), some (.int (l6 + 1))]) o_M_centuries_99 rfl rfl (Nat.le_of_ble_eq_true rfl) rfl ?_
    refine q_goto o_M_centuries_102 ?_
    exact h25

set_option maxRecDepth 20000 in
theorem v_M_mark_0 {G : q_G} {d : Nat} {σ : q_S} {Q : Option Value → q_S → Prop} {p0 : Int32} {p1 : Int32}  (hs : q_Sh σ) (h : q_Call G d 0 0 X_M_within [.int p0, .int 0, .int 3] (q_setI σ 159 0 0) (q_ri (fun x4 σ2 => ((x4 = 0 → Q (some (.int 0)) σ2) ∧ (¬ x4 = 0 → ((p1 = 0 → (∃ k11, p0 = nI k11 ∧ k11 < 4 ∧ q_Call G d 0 0 X_M_copies [.ref 159, .int (if p1 = 0 then (0 : Int32) else (82 * (1 + p0))), .int (if p1 = 0 then (82 * (1 + p0)) else (0 : Int32)), .int 82] (q_setI σ2 176 k11 (vp_nar .boolean 1)) (q_rv (fun σ15 => Q (some (.int 1)) (q_setI σ15 159 25 (if p1 = 0 then (q_I σ15 159 25) else (0 : Int32))))))) ∧ (¬ p1 = 0 → (∃ k20, p0 = nI k20 ∧ k20 < 4 ∧ ((¬ (q_I σ2 176 k20) = 0 → (∃ k24, p0 = nI k24 ∧ k24 < 4 ∧ q_Call G d 0 0 X_M_copies [.ref 159, .int (if p1 = 0 then (0 : Int32) else (82 * (1 + p0))), .int (if p1 = 0 then (82 * (1 + p0)) else (0 : Int32)), .int 82] (q_setI σ2 176 k24 (vp_nar .boolean 1)) (q_rv (fun σ28 => Q (some (.int 1)) (q_setI σ28 159 25 (if p1 = 0 then (q_I σ28 159 25) else (0 : Int32))))))) ∧ ((q_I σ2 176 k20) = 0 → Q (some (.int 0)) σ2)))))))))) : q_At G X_M_mark (d + 1) 0 0 0 [some (.ref 159), some (.int p0), some (.int p1)] [] σ Q := by
  refine q_aload_n o_M_mark_0 rfl ?_
  refine q_iconst (v := 0) o_M_mark_1 (by decide) ?_
  refine q2_putI hs o_M_mark_2 fp_M_1 rfl rfl rfl ?_
  refine q_iload_n o_M_mark_5 rfl ?_
  refine q_iconst (v := 0) o_M_mark_6 (by decide) ?_
  refine q_iconst (v := 3) o_M_mark_7 (by decide) ?_
  refine q2_callSi _ (As := [.int p0, .int 0, .int 3]) (st := []) hs o_M_mark_8 k_M_227 rfl (Nat.le_of_ble_eq_true rfl) h (fun x4 σ2 hs3 h1 => ?_)
  refine q_if_eq o_M_mark_11 (fun c5 => ?_) (fun c5 => ?_)
  · have h6 := h1.1 c5
    refine q_iconst (v := 0) o_M_mark_27 (by decide) ?_
    exact q_zre o_M_mark_28 rfl rfl h6
  · have h7 := h1.2 c5
    refine q_iload_n o_M_mark_14 rfl ?_
    refine q_if_eq o_M_mark_15 (fun c8 => ?_) (fun c8 => ?_)
    · have h9 := h7.1 c8
      refine q_aload_n o_M_mark_29 rfl ?_
      refine q2_getR hs3 o_M_mark_30 f_M_136 rfl (fz_159_26 hs3) ?_
      refine q_iload_n o_M_mark_33 rfl ?_
      refine q_iconst (v := 1) o_M_mark_34 (by decide) ?_
      obtain ⟨k11, eh10, bh10, h10⟩ := h9
      refine q2_zast hs3 o_M_mark_35 rfl eh10 bh10 (by decide) ?_
      refine q_aload_n o_M_mark_36 rfl ?_
      refine q_iload_n o_M_mark_37 rfl ?_
      have hJ : ∀ vJ : Int32, vJ = (if p1 = 0 then (0 : Int32) else (82 * (1 + p0))) → q_At G X_M_mark (d + 1) 0 0 51 [some (.ref 159), some (.int p0), some (.int p1)] [.int vJ, .ref 159] (q_setI σ2 176 k11 (vp_nar .boolean 1)) Q := by
        intro vJ eJ
        rw [eJ]
        clear eJ vJ
        refine q_iload_n o_M_mark_51 rfl ?_
        have hJ : ∀ vJ : Int32, vJ = (if p1 = 0 then (82 * (1 + p0)) else (0 : Int32)) → q_At G X_M_mark (d + 1) 0 0 65 [some (.ref 159), some (.int p0), some (.int p1)] [.int vJ, .int (if p1 = 0 then (0 : Int32) else (82 * (1 + p0))), .ref 159] (q_setI σ2 176 k11 (vp_nar .boolean 1)) Q := by
          intro vJ eJ
          rw [eJ]
          clear eJ vJ
          refine q_bipush (v := 82) o_M_mark_65 (by decide) ?_
          refine q2_callVv _ (a := 159) (As := [.int (if p1 = 0 then (0 : Int32) else (82 * (1 + p0))), .int (if p1 = 0 then (82 * (1 + p0)) else (0 : Int32)), .int 82]) (st := []) hs3 o_M_mark_67 k_M_325 rfl rfl (Nat.le_of_ble_eq_true rfl) h10 (fun σ15 hs16 h14 => ?_)
          refine q_aload_n o_M_mark_70 rfl ?_
          refine q_iload_n o_M_mark_71 rfl ?_
          have hJ : ∀ vJ : Int32, vJ = (if p1 = 0 then (q_I σ15 159 25) else (0 : Int32)) → q_At G X_M_mark (d + 1) 0 0 83 [some (.ref 159), some (.int p0), some (.int p1)] [.int vJ, .ref 159] σ15 Q := by
            intro vJ eJ
            rw [eJ]
            clear eJ vJ
            refine q2_putI hs16 o_M_mark_83 fp_M_322 rfl rfl rfl ?_
            refine q_iconst (v := 1) o_M_mark_86 (by decide) ?_
            exact q_zre o_M_mark_87 rfl rfl h14
          refine q_if_eq o_M_mark_72 (fun c17 => ?_) (fun c17 => ?_)
          · refine q_aload_n o_M_mark_79 rfl ?_
            refine q2_getI hs16 o_M_mark_80 f_M_322 rfl ?_
            exact hJ _ (Eq.symm (if_pos c17))
          · refine q_iconst (v := 0) o_M_mark_75 (by decide) ?_
            refine q_goto o_M_mark_76 ?_
            exact hJ _ (Eq.symm (if_neg c17))
        refine q_if_eq o_M_mark_52 (fun c13 => ?_) (fun c13 => ?_)
        · refine q_bipush (v := 82) o_M_mark_59 (by decide) ?_
          refine q_iconst (v := 1) o_M_mark_61 (by decide) ?_
          refine q_iload_n o_M_mark_62 rfl ?_
          refine q_iadd o_M_mark_63 ?_
          refine q_imul o_M_mark_64 ?_
          exact hJ _ (Eq.symm (if_pos c13))
        · refine q_iconst (v := 0) o_M_mark_55 (by decide) ?_
          refine q_goto o_M_mark_56 ?_
          exact hJ _ (Eq.symm (if_neg c13))
      refine q_if_eq o_M_mark_38 (fun c12 => ?_) (fun c12 => ?_)
      · refine q_iconst (v := 0) o_M_mark_50 (by decide) ?_
        exact hJ _ (Eq.symm (if_pos c12))
      · refine q_bipush (v := 82) o_M_mark_41 (by decide) ?_
        refine q_iconst (v := 1) o_M_mark_43 (by decide) ?_
        refine q_iload_n o_M_mark_44 rfl ?_
        refine q_iadd o_M_mark_45 ?_
        refine q_imul o_M_mark_46 ?_
        refine q_goto o_M_mark_47 ?_
        exact hJ _ (Eq.symm (if_neg c12))
    · have h18 := h7.2 c8
      refine q_aload_n o_M_mark_18 rfl ?_
      refine q2_getR hs3 o_M_mark_19 f_M_136 rfl (fz_159_26 hs3) ?_
      refine q_iload_n o_M_mark_22 rfl ?_
      obtain ⟨k20, eh19, bh19, h19⟩ := h18
      refine q2_zald hs3 o_M_mark_23 rfl eh19 bh19 (by decide) ?_
      refine q_if_ne o_M_mark_24 (fun c21 => ?_) (fun c21 => ?_)
      · have h22 := h19.1 c21
        refine q_aload_n o_M_mark_29 rfl ?_
        refine q2_getR hs3 o_M_mark_30 f_M_136 rfl (fz_159_26 hs3) ?_
        refine q_iload_n o_M_mark_33 rfl ?_
        refine q_iconst (v := 1) o_M_mark_34 (by decide) ?_
        obtain ⟨k24, eh23, bh23, h23⟩ := h22
        refine q2_zast hs3 o_M_mark_35 rfl eh23 bh23 (by decide) ?_
        refine q_aload_n o_M_mark_36 rfl ?_
        refine q_iload_n o_M_mark_37 rfl ?_
        have hJ : ∀ vJ : Int32, vJ = (if p1 = 0 then (0 : Int32) else (82 * (1 + p0))) → q_At G X_M_mark (d + 1) 0 0 51 [some (.ref 159), some (.int p0), some (.int p1)] [.int vJ, .ref 159] (q_setI σ2 176 k24 (vp_nar .boolean 1)) Q := by
          intro vJ eJ
          rw [eJ]
          clear eJ vJ
          refine q_iload_n o_M_mark_51 rfl ?_
          have hJ : ∀ vJ : Int32, vJ = (if p1 = 0 then (82 * (1 + p0)) else (0 : Int32)) → q_At G X_M_mark (d + 1) 0 0 65 [some (.ref 159), some (.int p0), some (.int p1)] [.int vJ, .int (if p1 = 0 then (0 : Int32) else (82 * (1 + p0))), .ref 159] (q_setI σ2 176 k24 (vp_nar .boolean 1)) Q := by
            intro vJ eJ
            rw [eJ]
            clear eJ vJ
            refine q_bipush (v := 82) o_M_mark_65 (by decide) ?_
            refine q2_callVv _ (a := 159) (As := [.int (if p1 = 0 then (0 : Int32) else (82 * (1 + p0))), .int (if p1 = 0 then (82 * (1 + p0)) else (0 : Int32)), .int 82]) (st := []) hs3 o_M_mark_67 k_M_325 rfl rfl (Nat.le_of_ble_eq_true rfl) h23 (fun σ28 hs29 h27 => ?_)
            refine q_aload_n o_M_mark_70 rfl ?_
            refine q_iload_n o_M_mark_71 rfl ?_
            have hJ : ∀ vJ : Int32, vJ = (if p1 = 0 then (q_I σ28 159 25) else (0 : Int32)) → q_At G X_M_mark (d + 1) 0 0 83 [some (.ref 159), some (.int p0), some (.int p1)] [.int vJ, .ref 159] σ28 Q := by
              intro vJ eJ
              rw [eJ]
              clear eJ vJ
              refine q2_putI hs29 o_M_mark_83 fp_M_322 rfl rfl rfl ?_
              refine q_iconst (v := 1) o_M_mark_86 (by decide) ?_
              exact q_zre o_M_mark_87 rfl rfl h27
            refine q_if_eq o_M_mark_72 (fun c30 => ?_) (fun c30 => ?_)
            · refine q_aload_n o_M_mark_79 rfl ?_
              refine q2_getI hs29 o_M_mark_80 f_M_322 rfl ?_
              exact hJ _ (Eq.symm (if_pos c30))
            · refine q_iconst (v := 0) o_M_mark_75 (by decide) ?_
              refine q_goto o_M_mark_76 ?_
              exact hJ _ (Eq.symm (if_neg c30))
          refine q_if_eq o_M_mark_52 (fun c26 => ?_) (fun c26 => ?_)
          · refine q_bipush (v := 82) o_M_mark_59 (by decide) ?_
            refine q_iconst (v := 1) o_M_mark_61 (by decide) ?_
            refine q_iload_n o_M_mark_62 rfl ?_
            refine q_iadd o_M_mark_63 ?_
            refine q_imul o_M_mark_64 ?_
            exact hJ _ (Eq.symm (if_pos c26))
          · refine q_iconst (v := 0) o_M_mark_55 (by decide) ?_
            refine q_goto o_M_mark_56 ?_
            exact hJ _ (Eq.symm (if_neg c26))
        refine q_if_eq o_M_mark_38 (fun c25 => ?_) (fun c25 => ?_)
        · refine q_iconst (v := 0) o_M_mark_50 (by decide) ?_
          exact hJ _ (Eq.symm (if_pos c25))
        · refine q_bipush (v := 82) o_M_mark_41 (by decide) ?_
          refine q_iconst (v := 1) o_M_mark_43 (by decide) ?_
          refine q_iload_n o_M_mark_44 rfl ?_
          refine q_iadd o_M_mark_45 ?_
          refine q_imul o_M_mark_46 ?_
          refine q_goto o_M_mark_47 ?_
          exact hJ _ (Eq.symm (if_neg c25))
      · have h31 := h19.2 c21
        refine q_iconst (v := 0) o_M_mark_27 (by decide) ?_
        exact q_zre o_M_mark_28 rfl rfl h31

set_option maxRecDepth 20000 in
theorem v_M_coinsOfAll_0 {G : q_G} {d : Nat} {σ : q_S} {Q : Option Value → q_S → Prop}   (hs : q_Sh σ) (h : q_At G X_M_coinsOfAll (d + 1) 0 0 4 [some (.ref 159), some (.int 0), some (.int 0)] [] σ Q) : q_At G X_M_coinsOfAll (d + 1) 0 0 0 [some (.ref 159), none, none] [] σ Q := by
  refine q_iconst (v := 0) o_M_coinsOfAll_0 (by decide) ?_
  refine q2_istn (ls' := [some (.ref 159), some (.int 0), none]) o_M_coinsOfAll_1 (Nat.le_of_ble_eq_true rfl) rfl ?_
  refine q_iconst (v := 0) o_M_coinsOfAll_2 (by decide) ?_
  refine q2_istn (ls' := [some (.ref 159), some (.int 0), some (.int 0)]) o_M_coinsOfAll_3 (Nat.le_of_ble_eq_true rfl) rfl ?_
  exact h

set_option maxRecDepth 20000 in
theorem v_M_coinsOfAll_4 {G : q_G} {d : Nat} {σ : q_S} {Q : Option Value → q_S → Prop} {l1 : Int32} {l2 : Int32}  (hs : q_Sh σ) (h : (((q_I σ 165 1) ≤ l2 → Q (some (.int l1)) σ) ∧ (¬ (q_I σ 165 1) ≤ l2 → (∃ k5, (6 + l2) = nI k5 ∧ k5 < 1886 ∧ q_At G X_M_coinsOfAll (d + 1) 0 0 4 [some (.ref 159), some (.int (l1 + (q_I σ 175 k5))), some (.int (l2 + 1))] [] σ Q)))) : q_At G X_M_coinsOfAll (d + 1) 0 0 4 [some (.ref 159), some (.int l1), some (.int l2)] [] σ Q := by
  refine q_iload_n o_M_coinsOfAll_4 rfl ?_
  refine q_aload_n o_M_coinsOfAll_5 rfl ?_
  refine q2_M_families hs o_M_coinsOfAll_6 k_M_309 (Nat.le_of_ble_eq_true rfl) ?_
  refine q_icmp_ge o_M_coinsOfAll_9 (fun c1 => ?_) (fun c1 => ?_)
  · have h2 := h.1 c1
    refine q_iload_n o_M_coinsOfAll_30 rfl ?_
    exact q_ire o_M_coinsOfAll_31 rfl h2
  · have h3 := h.2 c1
    refine q_iload_n o_M_coinsOfAll_12 rfl ?_
    refine q_aload_n o_M_coinsOfAll_13 rfl ?_
    refine q2_getR hs o_M_coinsOfAll_14 f_M_133 rfl (fz_159_24 hs) ?_
    refine q_bipush (v := 6) o_M_coinsOfAll_17 (by decide) ?_
    refine q_iload_n o_M_coinsOfAll_19 rfl ?_
    refine q_iadd o_M_coinsOfAll_20 ?_
    obtain ⟨k5, eh4, bh4, h4⟩ := h3
    refine q2_iald hs o_M_coinsOfAll_21 rfl eh4 bh4 (by decide) ?_
    refine q_iadd o_M_coinsOfAll_22 ?_
    refine q2_istn (ls' := [some (.ref 159), some (.int (l1 + (q_I σ 175 k5))), some (.int l2)]) o_M_coinsOfAll_23 (Nat.le_of_ble_eq_true rfl) rfl ?_
    refine q2_inc (v := (l2 + 1)) (ls' := [some (.ref 159), some (.int (l1 + (q_I σ 175 k5))), some (.int (l2 + 1))]) o_M_coinsOfAll_24 rfl rfl (Nat.le_of_ble_eq_true rfl) rfl ?_
    refine q_goto o_M_coinsOfAll_27 ?_
    exact h4

set_option maxRecDepth 20000 in
theorem v_M_debtsOfAll_0 {G : q_G} {d : Nat} {σ : q_S} {Q : Option Value → q_S → Prop}   (hs : q_Sh σ) (h : q_At G X_M_debtsOfAll d 0 0 4 [some (.ref 159), some (.int 0), some (.int 0)] [] σ Q) : q_At G X_M_debtsOfAll d 0 0 0 [some (.ref 159), none, none] [] σ Q := by
  refine q_iconst (v := 0) o_M_debtsOfAll_0 (by decide) ?_
  refine q2_istn (ls' := [some (.ref 159), some (.int 0), none]) o_M_debtsOfAll_1 (Nat.le_of_ble_eq_true rfl) rfl ?_
  refine q_iconst (v := 0) o_M_debtsOfAll_2 (by decide) ?_
  refine q2_istn (ls' := [some (.ref 159), some (.int 0), some (.int 0)]) o_M_debtsOfAll_3 (Nat.le_of_ble_eq_true rfl) rfl ?_
  exact h

set_option maxRecDepth 20000 in
theorem v_M_debtsOfAll_4 {G : q_G} {d : Nat} {σ : q_S} {Q : Option Value → q_S → Prop} {l1 : Int32} {l2 : Int32}  (hs : q_Sh σ) (h : ((36 ≤ l2 → Q (some (.int l1)) σ) ∧ (¬ 36 ≤ l2 → (∃ k5, (12 + l2) = nI k5 ∧ k5 < 1886 ∧ q_At G X_M_debtsOfAll d 0 0 4 [some (.ref 159), some (.int (l1 + (q_I σ 175 k5))), some (.int (l2 + 1))] [] σ Q)))) : q_At G X_M_debtsOfAll d 0 0 4 [some (.ref 159), some (.int l1), some (.int l2)] [] σ Q := by
  refine q_iload_n o_M_debtsOfAll_4 rfl ?_
  refine q_bipush (v := 36) o_M_debtsOfAll_5 (by decide) ?_
  refine q_icmp_ge o_M_debtsOfAll_7 (fun c1 => ?_) (fun c1 => ?_)
  · have h2 := h.1 c1
    refine q_iload_n o_M_debtsOfAll_28 rfl ?_
    exact q_ire o_M_debtsOfAll_29 rfl h2
  · have h3 := h.2 c1
    refine q_iload_n o_M_debtsOfAll_10 rfl ?_
    refine q_aload_n o_M_debtsOfAll_11 rfl ?_
    refine q2_getR hs o_M_debtsOfAll_12 f_M_133 rfl (fz_159_24 hs) ?_
    refine q_bipush (v := 12) o_M_debtsOfAll_15 (by decide) ?_
    refine q_iload_n o_M_debtsOfAll_17 rfl ?_
    refine q_iadd o_M_debtsOfAll_18 ?_
    obtain ⟨k5, eh4, bh4, h4⟩ := h3
    refine q2_iald hs o_M_debtsOfAll_19 rfl eh4 bh4 (by decide) ?_
    refine q_iadd o_M_debtsOfAll_20 ?_
    refine q2_istn (ls' := [some (.ref 159), some (.int (l1 + (q_I σ 175 k5))), some (.int l2)]) o_M_debtsOfAll_21 (Nat.le_of_ble_eq_true rfl) rfl ?_
    refine q2_inc (v := (l2 + 1)) (ls' := [some (.ref 159), some (.int (l1 + (q_I σ 175 k5))), some (.int (l2 + 1))]) o_M_debtsOfAll_22 rfl rfl (Nat.le_of_ble_eq_true rfl) rfl ?_
    refine q_goto o_M_debtsOfAll_25 ?_
    exact h4

set_option maxRecDepth 20000 in
theorem v_M_count_0 {G : q_G} {d : Nat} {σ : q_S} {Q : Option Value → q_S → Prop} {p0 : Int32}  (hs : q_Sh σ) (h : (((p0.toInt < 0 ∨ 12 < p0.toInt) → Q (some (.int (-1))) (q_setI σ 159 0 0)) ∧ ((p0.toInt = 0 → Q (some (.int (q_I (q_setI σ 159 0 0) 165 0))) (q_setI σ 159 0 0)) ∧ (p0.toInt = 1 → Q (some (.int (q_I (q_setI σ 159 0 0) 165 1))) (q_setI σ 159 0 0)) ∧ (p0.toInt = 2 → (∃ k7, p0 = nI k7 ∧ k7 < 400 ∧ Q (some (.int (q_I (q_setI σ 159 0 0) 165 k7))) (q_setI σ 159 0 0))) ∧ (p0.toInt = 3 → (∃ k10, p0 = nI k10 ∧ k10 < 400 ∧ Q (some (.int (q_I (q_setI σ 159 0 0) 165 k10))) (q_setI σ 159 0 0))) ∧ (p0.toInt = 4 → (∃ k13, p0 = nI k13 ∧ k13 < 400 ∧ Q (some (.int (q_I (q_setI σ 159 0 0) 165 k13))) (q_setI σ 159 0 0))) ∧ (p0.toInt = 5 → Q (some (.int (q_I (q_setI σ 159 0 0) 175 48))) (q_setI σ 159 0 0)) ∧ (p0.toInt = 6 → Q (some (.int (q_I (q_setI σ 159 0 0) 175 49))) (q_setI σ 159 0 0)) ∧ (p0.toInt = 7 → q_Call G d 0 0 X_M_coinsOfAll [.ref 159] (q_setI σ 159 0 0) (q_ri (fun x24 σ22 => Q (some (.int x24)) σ22))) ∧ (p0.toInt = 8 → q_Call G d 0 0 X_M_debtsOfAll [.ref 159] (q_setI σ 159 0 0) (q_ri (fun x29 σ27 => Q (some (.int x29)) σ27))) ∧ (p0.toInt = 9 → Q (some (.int (q_I (q_setI σ 159 0 0) 172 0))) (q_setI σ 159 0 0)) ∧ (p0.toInt = 10 → Q (some (.int (q_I (q_setI σ 159 0 0) 175 50))) (q_setI σ 159 0 0)) ∧ (p0.toInt = 11 → Q (some (.int (q_I (q_setI σ 159 0 0) 159 25))) (q_setI σ 159 0 0)) ∧ (p0.toInt = 12 → Q (some (.int (q_I (q_setI σ 159 0 0) 159 2))) (q_setI σ 159 0 0))))) : q_At G X_M_count (d + 1) 0 0 0 [some (.ref 159), some (.int p0)] [] σ Q := by
  refine q_aload_n o_M_count_0 rfl ?_
  refine q_iconst (v := 0) o_M_count_1 (by decide) ?_
  refine q2_putI hs o_M_count_2 fp_M_1 rfl rfl rfl ?_
  refine q_iload_n o_M_count_5 rfl ?_
  rcases q_sw 0 12 p0 with c0 | ⟨kk, c1, c2, c3⟩
  · have h1 := h.1 c0
    refine q_tabOut (tgt := 140) o_M_count_6 c0 (by decide) ?_
    refine q_iconst (v := (-1)) o_M_count_140 (by decide) ?_
    exact q_ire o_M_count_141 rfl h1
  · have h2 := h.2
    have hx : p0.toInt = 0 + (kk : Int) := c3
    have hkk : kk = 0 ∨ kk = 1 ∨ kk = 2 ∨ kk = 3 ∨ kk = 4 ∨ kk = 5 ∨ kk = 6 ∨ kk = 7 ∨ kk = 8 ∨ kk = 9 ∨ kk = 10 ∨ kk = 11 ∨ kk = 12 := by omega
    rcases hkk with rfl | rfl | rfl | rfl | rfl | rfl | rfl | rfl | rfl | rfl | rfl | rfl | rfl
    · have h3 := h2.1 (by simpa using hx)
      refine q_tabIn (tgt := 72) (off := 66) o_M_count_6 c1 c2 (by rw [show p0.toInt = 0 by simpa using hx]; rfl) (by decide) ?_
      refine q_aload_n o_M_count_72 rfl ?_
      refine q2_M_houses hs o_M_count_73 k_M_329 (Nat.le_of_ble_eq_true rfl) ?_
      exact q_ire o_M_count_76 rfl h3
    · have h4 := h2.2.1 (by simpa using hx)
      refine q_tabIn (tgt := 77) (off := 71) o_M_count_6 c1 c2 (by rw [show p0.toInt = 1 by simpa using hx]; rfl) (by decide) ?_
      refine q_aload_n o_M_count_77 rfl ?_
      refine q2_M_families hs o_M_count_78 k_M_309 (Nat.le_of_ble_eq_true rfl) ?_
      exact q_ire o_M_count_81 rfl h4
    · have h5 := h2.2.2.1 (by simpa using hx)
      refine q_tabIn (tgt := 82) (off := 76) o_M_count_6 c1 c2 (by rw [show p0.toInt = 2 by simpa using hx]; rfl) (by decide) ?_
      refine q_aload_n o_M_count_82 rfl ?_
      refine q2_getR hs o_M_count_83 f_M_103 rfl (fz_159_10 hs) ?_
      refine q_iload_n o_M_count_86 rfl ?_
      obtain ⟨k7, eh6, bh6, h6⟩ := h5
      refine q2_iald hs o_M_count_87 rfl eh6 bh6 (by decide) ?_
      exact q_ire o_M_count_88 rfl h6
    · have h8 := h2.2.2.2.1 (by simpa using hx)
      refine q_tabIn (tgt := 82) (off := 76) o_M_count_6 c1 c2 (by rw [show p0.toInt = 3 by simpa using hx]; rfl) (by decide) ?_
      refine q_aload_n o_M_count_82 rfl ?_
      refine q2_getR hs o_M_count_83 f_M_103 rfl (fz_159_10 hs) ?_
      refine q_iload_n o_M_count_86 rfl ?_
      obtain ⟨k10, eh9, bh9, h9⟩ := h8
      refine q2_iald hs o_M_count_87 rfl eh9 bh9 (by decide) ?_
      exact q_ire o_M_count_88 rfl h9
    · have h11 := h2.2.2.2.2.1 (by simpa using hx)
      refine q_tabIn (tgt := 82) (off := 76) o_M_count_6 c1 c2 (by rw [show p0.toInt = 4 by simpa using hx]; rfl) (by decide) ?_
      refine q_aload_n o_M_count_82 rfl ?_
      refine q2_getR hs o_M_count_83 f_M_103 rfl (fz_159_10 hs) ?_
      refine q_iload_n o_M_count_86 rfl ?_
      obtain ⟨k13, eh12, bh12, h12⟩ := h11
      refine q2_iald hs o_M_count_87 rfl eh12 bh12 (by decide) ?_
      exact q_ire o_M_count_88 rfl h12
    · have h14 := h2.2.2.2.2.2.1 (by simpa using hx)
      refine q_tabIn (tgt := 89) (off := 83) o_M_count_6 c1 c2 (by rw [show p0.toInt = 5 by simpa using hx]; rfl) (by decide) ?_
      refine q_aload_n o_M_count_89 rfl ?_
      refine q2_getR hs o_M_count_90 f_M_133 rfl (fz_159_24 hs) ?_
      refine q_bipush (v := 48) o_M_count_93 (by decide) ?_
      refine q2_iald (i := 48) hs o_M_count_95 rfl rfl (by decide) (by decide) ?_
      exact q_ire o_M_count_96 rfl h14
    · have h17 := h2.2.2.2.2.2.2.1 (by simpa using hx)
      refine q_tabIn (tgt := 97) (off := 91) o_M_count_6 c1 c2 (by rw [show p0.toInt = 6 by simpa using hx]; rfl) (by decide) ?_
      refine q_aload_n o_M_count_97 rfl ?_
      refine q2_getR hs o_M_count_98 f_M_133 rfl (fz_159_24 hs) ?_
      refine q_bipush (v := 49) o_M_count_101 (by decide) ?_
      refine q2_iald (i := 49) hs o_M_count_103 rfl rfl (by decide) (by decide) ?_
      exact q_ire o_M_count_104 rfl h17
    · have h20 := h2.2.2.2.2.2.2.2.1 (by simpa using hx)
      refine q_tabIn (tgt := 105) (off := 99) o_M_count_6 c1 c2 (by rw [show p0.toInt = 7 by simpa using hx]; rfl) (by decide) ?_
      refine q_aload_n o_M_count_105 rfl ?_
      refine q2_callVi _ (a := 159) (As := []) (st := []) hs o_M_count_106 k_M_475 rfl rfl (Nat.le_of_ble_eq_true rfl) h20 (fun x24 σ22 hs23 h21 => ?_)
      exact q_ire o_M_count_109 rfl h21
    · have h25 := h2.2.2.2.2.2.2.2.2.1 (by simpa using hx)
      refine q_tabIn (tgt := 110) (off := 104) o_M_count_6 c1 c2 (by rw [show p0.toInt = 8 by simpa using hx]; rfl) (by decide) ?_
      refine q_aload_n o_M_count_110 rfl ?_
      refine q2_callVi _ (a := 159) (As := []) (st := []) hs o_M_count_111 k_M_478 rfl rfl (Nat.le_of_ble_eq_true rfl) h25 (fun x29 σ27 hs28 h26 => ?_)
      exact q_ire o_M_count_114 rfl h26
    · have h30 := h2.2.2.2.2.2.2.2.2.2.1 (by simpa using hx)
      refine q_tabIn (tgt := 115) (off := 109) o_M_count_6 c1 c2 (by rw [show p0.toInt = 9 by simpa using hx]; rfl) (by decide) ?_
      refine q_aload_n o_M_count_115 rfl ?_
      refine q2_getR hs o_M_count_116 f_M_124 rfl (fz_159_21 hs) ?_
      refine q_iconst (v := 0) o_M_count_119 (by decide) ?_
      refine q2_iald (i := 0) hs o_M_count_120 rfl rfl (by decide) (by decide) ?_
      exact q_ire o_M_count_121 rfl h30
    · have h33 := h2.2.2.2.2.2.2.2.2.2.2.1 (by simpa using hx)
      refine q_tabIn (tgt := 122) (off := 116) o_M_count_6 c1 c2 (by rw [show p0.toInt = 10 by simpa using hx]; rfl) (by decide) ?_
      refine q_aload_n o_M_count_122 rfl ?_
      refine q2_getR hs o_M_count_123 f_M_133 rfl (fz_159_24 hs) ?_
      refine q_bipush (v := 50) o_M_count_126 (by decide) ?_
      refine q2_iald (i := 50) hs o_M_count_128 rfl rfl (by decide) (by decide) ?_
      exact q_ire o_M_count_129 rfl h33
    · have h36 := h2.2.2.2.2.2.2.2.2.2.2.2.1 (by simpa using hx)
      refine q_tabIn (tgt := 130) (off := 124) o_M_count_6 c1 c2 (by rw [show p0.toInt = 11 by simpa using hx]; rfl) (by decide) ?_
      refine q_aload_n o_M_count_130 rfl ?_
      refine q2_getI hs o_M_count_131 f_M_322 rfl ?_
      exact q_ire o_M_count_134 rfl h36
    · have h37 := h2.2.2.2.2.2.2.2.2.2.2.2.2 (by simpa using hx)
      refine q_tabIn (tgt := 135) (off := 129) o_M_count_6 c1 c2 (by rw [show p0.toInt = 12 by simpa using hx]; rfl) (by decide) ?_
      refine q_aload_n o_M_count_135 rfl ?_
      refine q2_getI hs o_M_count_136 f_M_11 rfl ?_
      exact q_ire o_M_count_139 rfl h37
