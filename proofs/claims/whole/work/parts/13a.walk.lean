theorem q_sw (lo hi : Int) (x : Int32) : (x.toInt < lo ∨ hi < x.toInt) ∨ ∃ kk : Nat, ¬ x.toInt < lo ∧ ¬ hi < x.toInt ∧ x.toInt = lo + kk := by
  by_cases h1 : x.toInt < lo
  · exact Or.inl (Or.inl h1)
  · by_cases h2 : hi < x.toInt
    · exact Or.inl (Or.inr h2)
    · exact Or.inr ⟨(x.toInt - lo).toNat, h1, h2, by omega⟩
set_option maxRecDepth 20000 in
theorem v_Dy_add_0 {G : q_G} {d : Nat} {σ : q_S} {Q : Option Value → q_S → Prop} {a0 : Nat} {p0 : Int32} {p1 : Int32} {p2 : Int32} {p3 : Int32} (ha0 : q_isDy a0) (hs : q_Sh σ) (h : ((24 ≤ (q_I σ a0 4) → Q (some (.int 1)) σ) ∧ (¬ 24 ≤ (q_I σ a0 4) → (∃ k5, (q_I σ a0 4) = nI k5 ∧ k5 < 24 ∧ (∃ k7, (q_I (q_setI σ (a0 + 1) k5 p0) a0 4) = nI k7 ∧ k7 < 24 ∧ (∃ k9, (q_I (q_setI (q_setI σ (a0 + 1) k5 p0) (a0 + 2) k7 p1) a0 4) = nI k9 ∧ k9 < 24 ∧ (∃ k11, (q_I (q_setI (q_setI (q_setI σ (a0 + 1) k5 p0) (a0 + 2) k7 p1) (a0 + 3) k9 p2) a0 4) = nI k11 ∧ k11 < 24 ∧ Q (some (.int 1)) (q_setI (q_setI (q_setI (q_setI (q_setI σ (a0 + 1) k5 p0) (a0 + 2) k7 p1) (a0 + 3) k9 p2) (a0 + 4) k11 p3) a0 4 ((q_I (q_setI (q_setI (q_setI (q_setI σ (a0 + 1) k5 p0) (a0 + 2) k7 p1) (a0 + 3) k9 p2) (a0 + 4) k11 p3) a0 4) + 1))))))))) : q_At G X_Dy_add d 0 0 0 [some (.ref a0), some (.int p0), some (.int p1), some (.int p2), some (.int p3)] [] σ Q := by
  refine q_aload_n o_Dy_add_0 rfl ?_
  refine q2_getI hs o_Dy_add_1 f_Dy_24 (kd_Dy_0 ha0) ?_
  refine q_bipush (v := 24) o_Dy_add_4 (by decide) ?_
  refine q_icmp_ge o_Dy_add_6 (fun c1 => ?_) (fun c1 => ?_)
  · have h2 := h.1 c1
    refine q_iconst (v := 1) o_Dy_add_60 (by decide) ?_
    exact q_zre o_Dy_add_61 rfl rfl h2
  · have h3 := h.2 c1
    refine q_aload_n o_Dy_add_9 rfl ?_
    refine q2_getR hs o_Dy_add_10 f_Dy_9 (kd_Dy_0 ha0) (fz_Dy_0 hs ha0) ?_
    refine q_aload_n o_Dy_add_13 rfl ?_
    refine q2_getI hs o_Dy_add_14 f_Dy_24 (kd_Dy_0 ha0) ?_
    refine q_iload_n o_Dy_add_17 rfl ?_
    obtain ⟨k5, eh4, bh4, h4⟩ := h3
    refine q2_iast hs o_Dy_add_18 (kd_Dy_1 ha0) eh4 bh4 (by decide) ?_
    refine q_aload_n o_Dy_add_19 rfl ?_
    refine q2_getR hs o_Dy_add_20 f_Dy_15 (kd_Dy_0 ha0) (fz_Dy_1 hs ha0) ?_
    refine q_aload_n o_Dy_add_23 rfl ?_
    refine q2_getI hs o_Dy_add_24 f_Dy_24 (kd_Dy_0 ha0) ?_
    refine q_iload_n o_Dy_add_27 rfl ?_
    obtain ⟨k7, eh6, bh6, h6⟩ := h4
    refine q2_iast hs o_Dy_add_28 (kd_Dy_2 ha0) eh6 bh6 (by decide) ?_
    refine q_aload_n o_Dy_add_29 rfl ?_
    refine q2_getR hs o_Dy_add_30 f_Dy_18 (kd_Dy_0 ha0) (fz_Dy_2 hs ha0) ?_
    refine q_aload_n o_Dy_add_33 rfl ?_
    refine q2_getI hs o_Dy_add_34 f_Dy_24 (kd_Dy_0 ha0) ?_
    refine q_iload_n o_Dy_add_37 rfl ?_
    obtain ⟨k9, eh8, bh8, h8⟩ := h6
    refine q2_iast hs o_Dy_add_38 (kd_Dy_3 ha0) eh8 bh8 (by decide) ?_
    refine q_aload_n o_Dy_add_39 rfl ?_
    refine q2_getR hs o_Dy_add_40 f_Dy_21 (kd_Dy_0 ha0) (fz_Dy_3 hs ha0) ?_
    refine q_aload_n o_Dy_add_43 rfl ?_
    refine q2_getI hs o_Dy_add_44 f_Dy_24 (kd_Dy_0 ha0) ?_
    refine q_iload o_Dy_add_47 rfl ?_
    obtain ⟨k11, eh10, bh10, h10⟩ := h8
    refine q2_iast hs o_Dy_add_49 (kd_Dy_4 ha0) eh10 bh10 (by decide) ?_
    refine q_aload_n o_Dy_add_50 rfl ?_
    refine q_dup o_Dy_add_51 rfl ?_
    refine q2_getI hs o_Dy_add_52 f_Dy_24 (kd_Dy_0 ha0) ?_
    refine q_iconst (v := 1) o_Dy_add_55 (by decide) ?_
    refine q_iadd o_Dy_add_56 ?_
    refine q2_putI hs o_Dy_add_57 fp_Dy_24 (kd_Dy_0 ha0) rfl rfl ?_
    refine q_iconst (v := 1) o_Dy_add_60 (by decide) ?_
    exact q_zre o_Dy_add_61 rfl rfl h10

set_option maxRecDepth 20000 in
theorem v_Dy_carryOut_0 {G : q_G} {d : Nat} {σ : q_S} {Q : Option Value → q_S → Prop} {a0 : Nat} {p0 : Int32} {p1 : Nat} {p2 : Nat} (ha0 : q_isDy a0) (hp1 : q_isLi p1) (hp2 : q_isTw p2) (hs : q_Sh σ) (h : ((p0 < 0 → Q (some (.int 0)) σ) ∧ (¬ p0 < 0 → (((q_I σ a0 4) ≤ p0 → Q (some (.int 0)) σ) ∧ (¬ (q_I σ a0 4) ≤ p0 → ((p0 < 24 → (∃ k10, p0 = nI k10 ∧ k10 < 24 ∧ (∃ k12, p0 = nI k12 ∧ k12 < 24 ∧ (∃ k14, p0 = nI k14 ∧ k14 < 24 ∧ (∃ k16, p0 = nI k16 ∧ k16 < 24 ∧ ((((q_I σ (a0 + 1) k16).toInt < 0 ∨ 2 < (q_I σ (a0 + 1) k16).toInt) → q_Call G d 0 0 X_Li_canPay [.ref p1, .int (q_I σ (a0 + 2) k10), .int (q_I σ (a0 + 3) k12), .int (q_I σ (a0 + 4) k14)] σ (q_ri (fun x21 σ19 => ((¬ x21 = 0 → q_Call G d 0 0 X_Li_payBack [.ref p1, .int (q_I σ (a0 + 2) k10), .int (q_I σ (a0 + 3) k12), .int (q_I σ (a0 + 4) k14)] σ19 (q_rv (fun σ25 => Q (some (.int 1)) σ25))) ∧ (x21 = 0 → Q (some (.int 0)) σ19))))) ∧ (((q_I σ (a0 + 1) k16).toInt = 0 → q_Call G d 0 0 X_Li_redraw [.ref p1, .ref p2, .ref 12] (q_setL σ 12 1 ((q_I σ (a0 + 4) k14).toInt64)) (q_ri (fun x33 σ31 => Q (some (.int 1)) σ31))) ∧ ((q_I σ (a0 + 1) k16).toInt = 1 → q_Call G d 0 0 X_Li_changeHouses [.ref p1, .int (q_I σ (a0 + 2) k10), .int (q_I σ (a0 + 3) k12)] σ (q_rv (fun σ36 => Q (some (.int 1)) σ36))) ∧ ((q_I σ (a0 + 1) k16).toInt = 2 → q_Call G d 0 0 X_Li_canLend [.ref p1, .ref p2, .int (q_I σ (a0 + 2) k10), .int (q_I σ (a0 + 3) k12), .int (q_I σ (a0 + 4) k14)] σ (q_ri (fun x42 σ40 => ((¬ x42 = 0 → q_Call G d 0 0 X_Li_giveLoan [.ref p1, .int (q_I σ (a0 + 2) k10), .int (q_I σ (a0 + 3) k12), .int (q_I σ (a0 + 4) k14)] σ40 (q_rv (fun σ46 => Q (some (.int 1)) σ46))) ∧ (x42 = 0 → Q (some (.int 0)) σ40)))))))))))) ∧ (¬ p0 < 24 → Q (some (.int 0)) σ))))))) : q_At G X_Dy_carryOut (d + 1) 0 0 0 [some (.ref a0), some (.int p0), some (.ref p1), some (.ref p2), some (.ref 12), none, none, none] [] σ Q := by
  refine q_iload_n o_Dy_carryOut_0 rfl ?_
  refine q_if_lt o_Dy_carryOut_1 (fun c1 => ?_) (fun c1 => ?_)
  · have h2 := h.1 c1
    refine q_iconst (v := 0) o_Dy_carryOut_18 (by decide) ?_
    exact q_zre o_Dy_carryOut_19 rfl rfl h2
  · have h3 := h.2 c1
    refine q_iload_n o_Dy_carryOut_4 rfl ?_
    refine q_aload_n o_Dy_carryOut_5 rfl ?_
    refine q2_getI hs o_Dy_carryOut_6 f_Dy_24 (kd_Dy_0 ha0) ?_
    refine q_icmp_ge o_Dy_carryOut_9 (fun c4 => ?_) (fun c4 => ?_)
    · have h5 := h3.1 c4
      refine q_iconst (v := 0) o_Dy_carryOut_18 (by decide) ?_
      exact q_zre o_Dy_carryOut_19 rfl rfl h5
    · have h6 := h3.2 c4
      refine q_iload_n o_Dy_carryOut_12 rfl ?_
      refine q_bipush (v := 24) o_Dy_carryOut_13 (by decide) ?_
      refine q_icmp_lt o_Dy_carryOut_15 (fun c7 => ?_) (fun c7 => ?_)
      · have h8 := h6.1 c7
        refine q_aload_n o_Dy_carryOut_20 rfl ?_
        refine q2_getR hs o_Dy_carryOut_21 f_Dy_15 (kd_Dy_0 ha0) (fz_Dy_1 hs ha0) ?_
        refine q_iload_n o_Dy_carryOut_24 rfl ?_
        obtain ⟨k10, eh9, bh9, h9⟩ := h8
        refine q2_iald hs o_Dy_carryOut_25 (kd_Dy_2 ha0) eh9 bh9 (by decide) ?_
        refine q2_ist (ls' := [some (.ref a0), some (.int p0), some (.ref p1), some (.ref p2), some (.ref 12), some (.int (q_I σ (a0 + 2) k10)), none, none]) o_Dy_carryOut_26 (Nat.le_of_ble_eq_true rfl) rfl ?_
        refine q_aload_n o_Dy_carryOut_28 rfl ?_
        refine q2_getR hs o_Dy_carryOut_29 f_Dy_18 (kd_Dy_0 ha0) (fz_Dy_2 hs ha0) ?_
        refine q_iload_n o_Dy_carryOut_32 rfl ?_
        obtain ⟨k12, eh11, bh11, h11⟩ := h9
        refine q2_iald hs o_Dy_carryOut_33 (kd_Dy_3 ha0) eh11 bh11 (by decide) ?_
        refine q2_ist (ls' := [some (.ref a0), some (.int p0), some (.ref p1), some (.ref p2), some (.ref 12), some (.int (q_I σ (a0 + 2) k10)), some (.int (q_I σ (a0 + 3) k12)), none]) o_Dy_carryOut_34 (Nat.le_of_ble_eq_true rfl) rfl ?_
        refine q_aload_n o_Dy_carryOut_36 rfl ?_
        refine q2_getR hs o_Dy_carryOut_37 f_Dy_21 (kd_Dy_0 ha0) (fz_Dy_3 hs ha0) ?_
        refine q_iload_n o_Dy_carryOut_40 rfl ?_
        obtain ⟨k14, eh13, bh13, h13⟩ := h11
        refine q2_iald hs o_Dy_carryOut_41 (kd_Dy_4 ha0) eh13 bh13 (by decide) ?_
        refine q2_ist (ls' := [some (.ref a0), some (.int p0), some (.ref p1), some (.ref p2), some (.ref 12), some (.int (q_I σ (a0 + 2) k10)), some (.int (q_I σ (a0 + 3) k12)), some (.int (q_I σ (a0 + 4) k14))]) o_Dy_carryOut_42 (Nat.le_of_ble_eq_true rfl) rfl ?_
        refine q_aload_n o_Dy_carryOut_44 rfl ?_
        refine q2_getR hs o_Dy_carryOut_45 f_Dy_9 (kd_Dy_0 ha0) (fz_Dy_0 hs ha0) ?_
        refine q_iload_n o_Dy_carryOut_48 rfl ?_
        obtain ⟨k16, eh15, bh15, h15⟩ := h13
        refine q2_iald hs o_Dy_carryOut_49 (kd_Dy_1 ha0) eh15 bh15 (by decide) ?_
        rcases q_sw 0 2 (q_I σ (a0 + 1) k16) with c0 | ⟨kk, c1, c2, c3⟩
        · have h17 := h15.1 c0
          refine q_tabOut (tgt := 132) o_Dy_carryOut_50 c0 (by decide) ?_
          refine q_aload_n o_Dy_carryOut_132 rfl ?_
          refine q_iload o_Dy_carryOut_133 rfl ?_
          refine q_iload o_Dy_carryOut_135 rfl ?_
          refine q_iload o_Dy_carryOut_137 rfl ?_
          refine q2_callVi _ (a := p1) (As := [.int (q_I σ (a0 + 2) k10), .int (q_I σ (a0 + 3) k12), .int (q_I σ (a0 + 4) k14)]) (st := []) hs o_Dy_carryOut_139 k_Dy_52 (kd_Li_0 hp1) rfl (Nat.le_of_ble_eq_true rfl) h17 (fun x21 σ19 hs20 h18 => ?_)
          refine q_if_ne o_Dy_carryOut_142 (fun c22 => ?_) (fun c22 => ?_)
          · have h23 := h18.1 c22
            refine q_aload_n o_Dy_carryOut_147 rfl ?_
            refine q_iload o_Dy_carryOut_148 rfl ?_
            refine q_iload o_Dy_carryOut_150 rfl ?_
            refine q_iload o_Dy_carryOut_152 rfl ?_
            refine q2_callVv _ (a := p1) (As := [.int (q_I σ (a0 + 2) k10), .int (q_I σ (a0 + 3) k12), .int (q_I σ (a0 + 4) k14)]) (st := []) hs20 o_Dy_carryOut_154 k_Dy_56 (kd_Li_0 hp1) rfl (Nat.le_of_ble_eq_true rfl) h23 (fun σ25 hs26 h24 => ?_)
            refine q_iconst (v := 1) o_Dy_carryOut_157 (by decide) ?_
            exact q_zre o_Dy_carryOut_158 rfl rfl h24
          · have h27 := h18.2 c22
            refine q_iconst (v := 0) o_Dy_carryOut_145 (by decide) ?_
            exact q_zre o_Dy_carryOut_146 rfl rfl h27
        · have h28 := h15.2
          have hx : (q_I σ (a0 + 1) k16).toInt = 0 + (kk : Int) := c3
          have hkk : kk = 0 ∨ kk = 1 ∨ kk = 2 := by omega
          rcases hkk with rfl | rfl | rfl
          · have h29 := h28.1 (by simpa using hx)
            refine q_tabIn (tgt := 76) (off := 26) o_Dy_carryOut_50 c1 c2 (by rw [show (q_I σ (a0 + 1) k16).toInt = 0 by simpa using hx]; rfl) (by decide) ?_
            refine q_aload o_Dy_carryOut_76 rfl ?_
            refine q_iload o_Dy_carryOut_78 rfl ?_
            refine q_i2l o_Dy_carryOut_80 ?_
            refine q2_putL hs o_Dy_carryOut_81 fp_Dy_28 rfl rfl rfl ?_
            refine q_aload_n o_Dy_carryOut_84 rfl ?_
            refine q_aload_n o_Dy_carryOut_85 rfl ?_
            refine q_aload o_Dy_carryOut_86 rfl ?_
            refine q2_callVi _ (a := p1) (As := [.ref p2, .ref 12]) (st := []) hs o_Dy_carryOut_88 k_Dy_34 (kd_Li_0 hp1) rfl (Nat.le_of_ble_eq_true rfl) h29 (fun x33 σ31 hs32 h30 => ?_)
            refine q_pop o_Dy_carryOut_91 rfl ?_
            refine q_iconst (v := 1) o_Dy_carryOut_92 (by decide) ?_
            exact q_zre o_Dy_carryOut_93 rfl rfl h30
          · have h34 := h28.2.1 (by simpa using hx)
            refine q_tabIn (tgt := 94) (off := 44) o_Dy_carryOut_50 c1 c2 (by rw [show (q_I σ (a0 + 1) k16).toInt = 1 by simpa using hx]; rfl) (by decide) ?_
            refine q_aload_n o_Dy_carryOut_94 rfl ?_
            refine q_iload o_Dy_carryOut_95 rfl ?_
            refine q_iload o_Dy_carryOut_97 rfl ?_
            refine q2_callVv _ (a := p1) (As := [.int (q_I σ (a0 + 2) k10), .int (q_I σ (a0 + 3) k12)]) (st := []) hs o_Dy_carryOut_99 k_Dy_40 (kd_Li_0 hp1) rfl (Nat.le_of_ble_eq_true rfl) h34 (fun σ36 hs37 h35 => ?_)
            refine q_iconst (v := 1) o_Dy_carryOut_102 (by decide) ?_
            exact q_zre o_Dy_carryOut_103 rfl rfl h35
          · have h38 := h28.2.2 (by simpa using hx)
            refine q_tabIn (tgt := 104) (off := 54) o_Dy_carryOut_50 c1 c2 (by rw [show (q_I σ (a0 + 1) k16).toInt = 2 by simpa using hx]; rfl) (by decide) ?_
            refine q_aload_n o_Dy_carryOut_104 rfl ?_
            refine q_aload_n o_Dy_carryOut_105 rfl ?_
            refine q_iload o_Dy_carryOut_106 rfl ?_
            refine q_iload o_Dy_carryOut_108 rfl ?_
            refine q_iload o_Dy_carryOut_110 rfl ?_
            refine q2_callVi _ (a := p1) (As := [.ref p2, .int (q_I σ (a0 + 2) k10), .int (q_I σ (a0 + 3) k12), .int (q_I σ (a0 + 4) k14)]) (st := []) hs o_Dy_carryOut_112 k_Dy_44 (kd_Li_0 hp1) rfl (Nat.le_of_ble_eq_true rfl) h38 (fun x42 σ40 hs41 h39 => ?_)
            refine q_if_ne o_Dy_carryOut_115 (fun c43 => ?_) (fun c43 => ?_)
            · have h44 := h39.1 c43
              refine q_aload_n o_Dy_carryOut_120 rfl ?_
              refine q_iload o_Dy_carryOut_121 rfl ?_
              refine q_iload o_Dy_carryOut_123 rfl ?_
              refine q_iload o_Dy_carryOut_125 rfl ?_
              refine q2_callVv _ (a := p1) (As := [.int (q_I σ (a0 + 2) k10), .int (q_I σ (a0 + 3) k12), .int (q_I σ (a0 + 4) k14)]) (st := []) hs41 o_Dy_carryOut_127 k_Dy_48 (kd_Li_0 hp1) rfl (Nat.le_of_ble_eq_true rfl) h44 (fun σ46 hs47 h45 => ?_)
              refine q_iconst (v := 1) o_Dy_carryOut_130 (by decide) ?_
              exact q_zre o_Dy_carryOut_131 rfl rfl h45
            · have h48 := h39.2 c43
              refine q_iconst (v := 0) o_Dy_carryOut_118 (by decide) ?_
              exact q_zre o_Dy_carryOut_119 rfl rfl h48
      · have h49 := h6.2 c7
        refine q_iconst (v := 0) o_Dy_carryOut_18 (by decide) ?_
        exact q_zre o_Dy_carryOut_19 rfl rfl h49

set_option maxRecDepth 20000 in
theorem v_Di_below_0 {G : q_G} {d : Nat} {σ : q_S} {Q : Option Value → q_S → Prop} {p0 : Int32}  (hs : q_Sh σ) (h : ((1 ≤ p0 → (¬ p0.toInt64 = 0 ∧ Q (some (.int ((((q_L (q_setL σ 12 1 ((((q_L σ 12 1) * 1103515245) + 12345) - (((q_L σ 12 1) * 1103515245) + 12345) / 2147483648 * 2147483648)) 12 1) / 65536) - ((q_L (q_setL σ 12 1 ((((q_L σ 12 1) * 1103515245) + 12345) - (((q_L σ 12 1) * 1103515245) + 12345) / 2147483648 * 2147483648)) 12 1) / 65536) / p0.toInt64 * p0.toInt64).toInt32))) (q_setL σ 12 1 ((((q_L σ 12 1) * 1103515245) + 12345) - (((q_L σ 12 1) * 1103515245) + 12345) / 2147483648 * 2147483648)))) ∧ (¬ 1 ≤ p0 → Q (some (.int 0)) (q_setL σ 12 1 ((((q_L σ 12 1) * 1103515245) + 12345) - (((q_L σ 12 1) * 1103515245) + 12345) / 2147483648 * 2147483648))))) : q_At G X_Di_below d 0 0 0 [some (.ref 12), some (.int p0)] [] σ Q := by
  refine q_aload_n o_Di_below_0 rfl ?_
  refine q_aload_n o_Di_below_1 rfl ?_
  refine q2_getL hs o_Di_below_2 f_Di_15 rfl ?_
  refine q_ldc2 o_Di_below_5 n_Di_19 ?_
  refine q_lmul o_Di_below_8 ?_
  refine q_ldc2 o_Di_below_9 n_Di_21 ?_
  refine q_ladd o_Di_below_12 ?_
  refine q_ldc2 o_Di_below_13 n_Di_23 ?_
  refine q_lrem o_Di_below_16 (by decide) ?_
  refine q2_putL hs o_Di_below_17 fp_Di_15 rfl rfl rfl ?_
  refine q_iload_n o_Di_below_20 rfl ?_
  refine q_iconst (v := 1) o_Di_below_21 (by decide) ?_
  refine q_icmp_ge o_Di_below_22 (fun c1 => ?_) (fun c1 => ?_)
  · have h2 := h.1 c1
    refine q_aload_n o_Di_below_29 rfl ?_
    refine q2_getL hs o_Di_below_30 f_Di_15 rfl ?_
    refine q_ldc2 o_Di_below_33 n_Di_25 ?_
    refine q_ldiv o_Di_below_36 (by decide) ?_
    refine q_iload_n o_Di_below_37 rfl ?_
    refine q_i2l o_Di_below_38 ?_
    obtain ⟨h3n, h3⟩ := h2
    refine q_lrem o_Di_below_39 h3n ?_
    refine q_l2i o_Di_below_40 ?_
    exact q_ire o_Di_below_41 rfl h3
  · have h4 := h.2 c1
    refine q_iconst (v := 0) o_Di_below_25 (by decide) ?_
    refine q_goto o_Di_below_26 ?_
    exact q_ire o_Di_below_41 rfl h4

set_option maxRecDepth 20000 in
theorem v_Di_shuffle_0 {G : q_G} {d : Nat} {σ : q_S} {Q : Option Value → q_S → Prop} {p0 : Int32}  (hs : q_Sh σ) (h : q_At G X_Di_shuffle (d + 1) 0 0 9 [some (.ref 12), some (.int p0), some (.int (if 6 < p0 then 6 else p0)), some (.int 0), none, none] [] σ Q) : q_At G X_Di_shuffle (d + 1) 0 0 0 [some (.ref 12), some (.int p0), none, none, none, none] [] σ Q := by
  refine q_iload_n o_Di_shuffle_0 rfl ?_
  refine q_bipush (v := 6) o_Di_shuffle_1 (by decide) ?_
  refine q_min o_Di_shuffle_3 k_Di_27 (Nat.le_of_ble_eq_true rfl) ?_
  refine q2_istn (ls' := [some (.ref 12), some (.int p0), some (.int (if 6 < p0 then 6 else p0)), none, none, none]) o_Di_shuffle_6 (Nat.le_of_ble_eq_true rfl) rfl ?_
  refine q_iconst (v := 0) o_Di_shuffle_7 (by decide) ?_
  refine q2_istn (ls' := [some (.ref 12), some (.int p0), some (.int (if 6 < p0 then 6 else p0)), some (.int 0), none, none]) o_Di_shuffle_8 (Nat.le_of_ble_eq_true rfl) rfl ?_
  exact h

set_option maxRecDepth 20000 in
theorem v_Di_shuffle_9 {G : q_G} {d : Nat} {σ : q_S} {Q : Option Value → q_S → Prop} {p0 : Int32} {l2 : Int32} {l3 : Int32}  (hs : q_Sh σ) (h : ((l2 ≤ l3 → q_At G X_Di_shuffle (d + 1) 0 0 31 [some (.ref 12), some (.int p0), some (.int l2), some (.int (l2 - 1)), none, none] [] σ Q) ∧ (¬ l2 ≤ l3 → (∃ k5, l3 = nI k5 ∧ k5 < 6 ∧ q_At G X_Di_shuffle (d + 1) 0 0 9 [some (.ref 12), some (.int p0), some (.int l2), some (.int (l3 + 1)), none, none] [] (q_setI σ 13 k5 l3) Q)))) : q_At G X_Di_shuffle (d + 1) 0 0 9 [some (.ref 12), some (.int p0), some (.int l2), some (.int l3), none, none] [] σ Q := by
  refine q_iload_n o_Di_shuffle_9 rfl ?_
  refine q_iload_n o_Di_shuffle_10 rfl ?_
  refine q_icmp_ge o_Di_shuffle_11 (fun c1 => ?_) (fun c1 => ?_)
  · have h2 := h.1 c1
    refine q_iload_n o_Di_shuffle_27 rfl ?_
    refine q_iconst (v := 1) o_Di_shuffle_28 (by decide) ?_
    refine q_isub o_Di_shuffle_29 ?_
    refine q2_istn (ls' := [some (.ref 12), some (.int p0), some (.int l2), some (.int (l2 - 1)), none, none]) o_Di_shuffle_30 (Nat.le_of_ble_eq_true rfl) rfl ?_
    exact h2
  · have h3 := h.2 c1
    refine q_aload_n o_Di_shuffle_14 rfl ?_
    refine q2_getR hs o_Di_shuffle_15 f_Di_9 rfl (fz_12_0 hs) ?_
    refine q_iload_n o_Di_shuffle_18 rfl ?_
    refine q_iload_n o_Di_shuffle_19 rfl ?_
    obtain ⟨k5, eh4, bh4, h4⟩ := h3
    refine q2_iast hs o_Di_shuffle_20 rfl eh4 bh4 (by decide) ?_
    refine q2_inc (v := (l3 + 1)) (ls' := [some (.ref 12), some (.int p0), some (.int l2), some (.int (l3 + 1)), none, none]) o_Di_shuffle_21 rfl rfl (Nat.le_of_ble_eq_true rfl) rfl ?_
    refine q_goto o_Di_shuffle_24 ?_
    exact h4

set_option maxRecDepth 20000 in
theorem v_Di_shuffle_31 {G : q_G} {d : Nat} {σ : q_S} {Q : Option Value → q_S → Prop} {p0 : Int32} {l2 : Int32} {l3 : Int32}  (hs : q_Sh σ) (h : ((l3 ≤ 0 → Q none σ) ∧ (¬ l3 ≤ 0 → q_Call G d 0 0 X_Di_below [.ref 12, .int (l3 + 1)] σ (q_ri (fun x7 σ5 => (∃ k9, l3 = nI k9 ∧ k9 < 6 ∧ (∃ k11, x7 = nI k11 ∧ k11 < 6 ∧ (∃ k13, l3 = nI k13 ∧ k13 < 6 ∧ (∃ k15, x7 = nI k15 ∧ k15 < 6 ∧ q_At G X_Di_shuffle (d + 1) 0 0 31 [some (.ref 12), some (.int p0), some (.int l2), some (.int (l3 + (-1))), none, none] [] (q_setI (q_setI σ5 13 k13 (q_I σ5 13 k11)) 13 k15 (q_I σ5 13 k9)) Q))))))))) : q_At G X_Di_shuffle (d + 1) 0 0 31 [some (.ref 12), some (.int p0), some (.int l2), some (.int l3), none, none] [] σ Q := by
  refine q_iload_n o_Di_shuffle_31 rfl ?_
  refine q_if_le o_Di_shuffle_32 (fun c1 => ?_) (fun c1 => ?_)
  · have h2 := h.1 c1
    exact q_vre o_Di_shuffle_80 rfl h2
  · have h3 := h.2 c1
    refine q_aload_n o_Di_shuffle_35 rfl ?_
    refine q_iload_n o_Di_shuffle_36 rfl ?_
    refine q_iconst (v := 1) o_Di_shuffle_37 (by decide) ?_
    refine q_iadd o_Di_shuffle_38 ?_
    refine q2_callVi _ (a := 12) (As := [.int (l3 + 1)]) (st := []) hs o_Di_shuffle_39 k_Di_33 rfl rfl (Nat.le_of_ble_eq_true rfl) h3 (fun x7 σ5 hs6 h4 => ?_)
    refine q2_ist (ls' := [some (.ref 12), some (.int p0), some (.int l2), some (.int l3), some (.int x7), none]) o_Di_shuffle_42 (Nat.le_of_ble_eq_true rfl) rfl ?_
    refine q_aload_n o_Di_shuffle_44 rfl ?_
    refine q2_getR hs6 o_Di_shuffle_45 f_Di_9 rfl (fz_12_0 hs6) ?_
    refine q_iload_n o_Di_shuffle_48 rfl ?_
    obtain ⟨k9, eh8, bh8, h8⟩ := h4
    refine q2_iald hs6 o_Di_shuffle_49 rfl eh8 bh8 (by decide) ?_
    refine q2_ist (ls' := [some (.ref 12), some (.int p0), some (.int l2), some (.int l3), some (.int x7), some (.int (q_I σ5 13 k9))]) o_Di_shuffle_50 (Nat.le_of_ble_eq_true rfl) rfl ?_
    refine q_aload_n o_Di_shuffle_52 rfl ?_
    refine q2_getR hs6 o_Di_shuffle_53 f_Di_9 rfl (fz_12_0 hs6) ?_
    refine q_iload_n o_Di_shuffle_56 rfl ?_
    refine q_aload_n o_Di_shuffle_57 rfl ?_
    refine q2_getR hs6 o_Di_shuffle_58 f_Di_9 rfl (fz_12_0 hs6) ?_
    refine q_iload o_Di_shuffle_61 rfl ?_
    obtain ⟨k11, eh10, bh10, h10⟩ := h8
    refine q2_iald hs6 o_Di_shuffle_63 rfl eh10 bh10 (by decide) ?_
    obtain ⟨k13, eh12, bh12, h12⟩ := h10
    refine q2_iast hs6 o_Di_shuffle_64 rfl eh12 bh12 (by decide) ?_
    refine q_aload_n o_Di_shuffle_65 rfl ?_
    refine q2_getR hs6 o_Di_shuffle_66 f_Di_9 rfl (fz_12_0 hs6) ?_
    refine q_iload o_Di_shuffle_69 rfl ?_
    refine q_iload o_Di_shuffle_71 rfl ?_
    obtain ⟨k15, eh14, bh14, h14⟩ := h12
    refine q2_iast hs6 o_Di_shuffle_73 rfl eh14 bh14 (by decide) ?_
    refine q2_inc (v := (l3 + (-1))) (ls' := [some (.ref 12), some (.int p0), some (.int l2), some (.int (l3 + (-1))), some (.int x7), some (.int (q_I σ5 13 k9))]) o_Di_shuffle_74 rfl rfl (Nat.le_of_ble_eq_true rfl) rfl ?_
    refine q_goto o_Di_shuffle_77 ?_
    exact q_weak (ls' := [some (.ref 12), some (.int p0), some (.int l2), some (.int (l3 + (-1))), none, none]) (And.intro rfl (And.intro rfl (And.intro rfl (And.intro rfl trivial)))) h14

set_option maxRecDepth 20000 in
theorem v_La_forget_0 {G : q_G} {d : Nat} {σ : q_S} {Q : Option Value → q_S → Prop} {a0 : Nat} (ha0 : q_isLa a0) (hs : q_Sh σ) (h : q_At G X_La_forget (d + 1) 0 0 7 [some (.ref a0), some (.int 0)] [] (q_setI σ a0 5 0) Q) : q_At G X_La_forget (d + 1) 0 0 0 [some (.ref a0), none] [] σ Q := by
  refine q_aload_n o_La_forget_0 rfl ?_
  refine q_iconst (v := 0) o_La_forget_1 (by decide) ?_
  refine q2_putI hs o_La_forget_2 fp_La_28 (kd_La_0 ha0) rfl rfl ?_
  refine q_iconst (v := 0) o_La_forget_5 (by decide) ?_
  refine q2_istn (ls' := [some (.ref a0), some (.int 0)]) o_La_forget_6 (Nat.le_of_ble_eq_true rfl) rfl ?_
  exact h

set_option maxRecDepth 20000 in
theorem v_La_forget_7 {G : q_G} {d : Nat} {σ : q_S} {Q : Option Value → q_S → Prop} {a0 : Nat} {l1 : Int32} (ha0 : q_isLa a0) (hs : q_Sh σ) (h : (((nI 15) ≤ l1 → q_Call G d 0 0 X_La_placeLaw [.ref a0, .int 0, .int 0, .int 5] σ (q_rv (fun σ4 => q_Call G d 0 0 X_La_placeLaw [.ref a0, .int 1, .int 5, .int 8] σ4 (q_rv (fun σ7 => q_Call G d 0 0 X_La_placeLaw [.ref a0, .int 2, .int 8, .int 15] σ7 (q_rv (fun σ10 => Q none σ10))))))) ∧ (¬ (nI 15) ≤ l1 → (∃ k14, l1 = nI k14 ∧ k14 < 15 ∧ q_Call G d 0 0 X_La_addStep [.ref a0, .int (q_unt.getD k14 0)] σ (q_rv (fun σ16 => q_At G X_La_forget (d + 1) 0 0 7 [some (.ref a0), some (.int (l1 + 1))] [] σ16 Q)))))) : q_At G X_La_forget (d + 1) 0 0 7 [some (.ref a0), some (.int l1)] [] σ Q := by
  refine q_iload_n o_La_forget_7 rfl ?_
  refine q_gets (w := .ref 1041) o_La_forget_8 s_La_32 (fun U H hh => hh.2.2.2.1.1) ?_
  refine q_tlen o_La_forget_11 (fun U H hh => hh.2.2.2.1.2) ?_
  refine q_icmp_ge o_La_forget_12 (fun c1 => ?_) (fun c1 => ?_)
  · have h2 := h.1 c1
    refine q_aload_n o_La_forget_30 rfl ?_
    refine q_iconst (v := 0) o_La_forget_31 (by decide) ?_
    refine q_iconst (v := 0) o_La_forget_32 (by decide) ?_
    refine q_iconst (v := 5) o_La_forget_33 (by decide) ?_
    refine q2_callVv _ (a := a0) (As := [.int 0, .int 0, .int 5]) (st := []) hs o_La_forget_34 k_La_39 (kd_La_0 ha0) rfl (Nat.le_of_ble_eq_true rfl) h2 (fun σ4 hs5 h3 => ?_)
    refine q_aload_n o_La_forget_37 rfl ?_
    refine q_iconst (v := 1) o_La_forget_38 (by decide) ?_
    refine q_iconst (v := 5) o_La_forget_39 (by decide) ?_
    refine q_bipush (v := 8) o_La_forget_40 (by decide) ?_
    refine q2_callVv _ (a := a0) (As := [.int 1, .int 5, .int 8]) (st := []) hs5 o_La_forget_42 k_La_39 (kd_La_0 ha0) rfl (Nat.le_of_ble_eq_true rfl) h3 (fun σ7 hs8 h6 => ?_)
    refine q_aload_n o_La_forget_45 rfl ?_
    refine q_iconst (v := 2) o_La_forget_46 (by decide) ?_
    refine q_bipush (v := 8) o_La_forget_47 (by decide) ?_
    refine q_bipush (v := 15) o_La_forget_49 (by decide) ?_
    refine q2_callVv _ (a := a0) (As := [.int 2, .int 8, .int 15]) (st := []) hs8 o_La_forget_51 k_La_39 (kd_La_0 ha0) rfl (Nat.le_of_ble_eq_true rfl) h6 (fun σ10 hs11 h9 => ?_)
    exact q_vre o_La_forget_54 rfl h9
  · have h12 := h.2 c1
    refine q_aload_n o_La_forget_15 rfl ?_
    refine q_gets (w := .ref 1041) o_La_forget_16 s_La_32 (fun U H hh => hh.2.2.2.1.1) ?_
    refine q_iload_n o_La_forget_19 rfl ?_
    obtain ⟨k14, eh13, bh13, h13⟩ := h12
    refine q_ti (w := .int (q_unt.getD k14 0)) o_La_forget_20 (fun U H hh => hh.2.2.2.1.2) eh13 bh13 (by decide) rfl ?_
    refine q2_callVv _ (a := a0) (As := [.int (q_unt.getD k14 0)]) (st := []) hs o_La_forget_21 k_La_35 (kd_La_0 ha0) rfl (Nat.le_of_ble_eq_true rfl) h13 (fun σ16 hs17 h15 => ?_)
    refine q2_inc (v := (l1 + 1)) (ls' := [some (.ref a0), some (.int (l1 + 1))]) o_La_forget_24 rfl rfl (Nat.le_of_ble_eq_true rfl) rfl ?_
    refine q_goto o_La_forget_27 ?_
    exact h15

set_option maxRecDepth 20000 in
theorem v_La_placeLaw_0 {G : q_G} {d : Nat} {σ : q_S} {Q : Option Value → q_S → Prop} {a0 : Nat} {p0 : Int32} {p1 : Int32} {p2 : Int32} (ha0 : q_isLa a0) (hs : q_Sh σ) (h : (∃ k2, p0 = nI k2 ∧ k2 < 3 ∧ (∃ k4, p0 = nI k4 ∧ k4 < 3 ∧ (∃ k6, p0 = nI k6 ∧ k6 < 3 ∧ Q none (q_setI (q_setI (q_setI σ (a0 + 2) k2 p1) (a0 + 3) k4 p2) (a0 + 4) k6 (vp_nar .boolean 0)))))) : q_At G X_La_placeLaw d 0 0 0 [some (.ref a0), some (.int p0), some (.int p1), some (.int p2)] [] σ Q := by
  refine q_aload_n o_La_placeLaw_0 rfl ?_
  refine q2_getR hs o_La_placeLaw_1 f_La_15 (kd_La_0 ha0) (fz_La_1 hs ha0) ?_
  refine q_iload_n o_La_placeLaw_4 rfl ?_
  refine q_iload_n o_La_placeLaw_5 rfl ?_
  obtain ⟨k2, eh1, bh1, h1⟩ := h
  refine q2_iast hs o_La_placeLaw_6 (kd_La_2 ha0) eh1 bh1 (by decide) ?_
  refine q_aload_n o_La_placeLaw_7 rfl ?_
  refine q2_getR hs o_La_placeLaw_8 f_La_18 (kd_La_0 ha0) (fz_La_2 hs ha0) ?_
  refine q_iload_n o_La_placeLaw_11 rfl ?_
  refine q_iload_n o_La_placeLaw_12 rfl ?_
  obtain ⟨k4, eh3, bh3, h3⟩ := h1
  refine q2_iast hs o_La_placeLaw_13 (kd_La_3 ha0) eh3 bh3 (by decide) ?_
  refine q_aload_n o_La_placeLaw_14 rfl ?_
  refine q2_getR hs o_La_placeLaw_15 f_La_21 (kd_La_0 ha0) (fz_La_3 hs ha0) ?_
  refine q_iload_n o_La_placeLaw_18 rfl ?_
  refine q_iconst (v := 0) o_La_placeLaw_19 (by decide) ?_
  obtain ⟨k6, eh5, bh5, h5⟩ := h3
  refine q2_zast hs o_La_placeLaw_20 (kd_La_4 ha0) eh5 bh5 (by decide) ?_
  exact q_vre o_La_placeLaw_21 rfl h5

set_option maxRecDepth 20000 in
theorem v_La_addStep_0 {G : q_G} {d : Nat} {σ : q_S} {Q : Option Value → q_S → Prop} {a0 : Nat} {p0 : Int32} (ha0 : q_isLa a0) (hs : q_Sh σ) (h : ((1024 ≤ (q_I σ a0 5) → Q none σ) ∧ (¬ 1024 ≤ (q_I σ a0 5) → (∃ k5, (q_I σ a0 5) = nI k5 ∧ k5 < 1024 ∧ Q none (q_setI (q_setI σ (a0 + 1) k5 p0) a0 5 ((q_I (q_setI σ (a0 + 1) k5 p0) a0 5) + 1)))))) : q_At G X_La_addStep d 0 0 0 [some (.ref a0), some (.int p0)] [] σ Q := by
  refine q_aload_n o_La_addStep_0 rfl ?_
  refine q2_getI hs o_La_addStep_1 f_La_28 (kd_La_0 ha0) ?_
  refine q_sipush (v := 1024) o_La_addStep_4 (by decide) ?_
  refine q_icmp_ge o_La_addStep_7 (fun c1 => ?_) (fun c1 => ?_)
  · have h2 := h.1 c1
    exact q_vre o_La_addStep_30 rfl h2
  · have h3 := h.2 c1
    refine q_aload_n o_La_addStep_10 rfl ?_
    refine q2_getR hs o_La_addStep_11 f_La_11 (kd_La_0 ha0) (fz_La_0 hs ha0) ?_
    refine q_aload_n o_La_addStep_14 rfl ?_
    refine q2_getI hs o_La_addStep_15 f_La_28 (kd_La_0 ha0) ?_
    refine q_iload_n o_La_addStep_18 rfl ?_
    obtain ⟨k5, eh4, bh4, h4⟩ := h3
    refine q2_iast hs o_La_addStep_19 (kd_La_1 ha0) eh4 bh4 (by decide) ?_
    refine q_aload_n o_La_addStep_20 rfl ?_
    refine q_dup o_La_addStep_21 rfl ?_
    refine q2_getI hs o_La_addStep_22 f_La_28 (kd_La_0 ha0) ?_
    refine q_iconst (v := 1) o_La_addStep_25 (by decide) ?_
    refine q_iadd o_La_addStep_26 ?_
    refine q2_putI hs o_La_addStep_27 fp_La_28 (kd_La_0 ha0) rfl rfl ?_
    exact q_vre o_La_addStep_30 rfl h4

set_option maxRecDepth 20000 in
theorem v_La_tellFrom_0 {G : q_G} {d : Nat} {σ : q_S} {Q : Option Value → q_S → Prop} {a0 : Nat} {p0 : Int32} {p1 : Int32} (ha0 : q_isLa a0) (hs : q_Sh σ) (h : q_Call G d 0 0 X_La_placeLaw [.ref a0, .int p0, .int p1, .int (q_I σ a0 5)] σ (q_rv (fun σ2 => (∃ k5, p0 = nI k5 ∧ k5 < 3 ∧ Q none (q_setI σ2 (a0 + 4) k5 (vp_nar .boolean 1)))))) : q_At G X_La_tellFrom (d + 1) 0 0 0 [some (.ref a0), some (.int p0), some (.int p1)] [] σ Q := by
  refine q_aload_n o_La_tellFrom_0 rfl ?_
  refine q_iload_n o_La_tellFrom_1 rfl ?_
  refine q_iload_n o_La_tellFrom_2 rfl ?_
  refine q_aload_n o_La_tellFrom_3 rfl ?_
  refine q2_getI hs o_La_tellFrom_4 f_La_28 (kd_La_0 ha0) ?_
  refine q2_callVv _ (a := a0) (As := [.int p0, .int p1, .int (q_I σ a0 5)]) (st := []) hs o_La_tellFrom_7 k_La_39 (kd_La_0 ha0) rfl (Nat.le_of_ble_eq_true rfl) h (fun σ2 hs3 h1 => ?_)
  refine q_aload_n o_La_tellFrom_10 rfl ?_
  refine q2_getR hs3 o_La_tellFrom_11 f_La_21 (kd_La_0 ha0) (fz_La_3 hs3 ha0) ?_
  refine q_iload_n o_La_tellFrom_14 rfl ?_
  refine q_iconst (v := 1) o_La_tellFrom_15 (by decide) ?_
  obtain ⟨k5, eh4, bh4, h4⟩ := h1
  refine q2_zast hs3 o_La_tellFrom_16 (kd_La_4 ha0) eh4 bh4 (by decide) ?_
  exact q_vre o_La_tellFrom_17 rfl h4

set_option maxRecDepth 20000 in
theorem v_La_readChain_0 {G : q_G} {d : Nat} {σ : q_S} {Q : Option Value → q_S → Prop} {a0 : Nat} {p1 : Int32} {p2 : Int32} (ha0 : q_isLa a0) (hs : q_Sh σ) (h : q_Call G d 0 0 X_La_readTest [.ref a0, .ref 3, .int p1, .int p2] σ (q_ri (fun x4 σ2 => ((¬ x4 = 0 → q_At G X_La_readChain (d + 1) 0 0 15 [some (.ref a0), some (.ref 3), some (.int p1), some (.int p2), some (.int 0), none] [] σ2 Q) ∧ (x4 = 0 → Q (some (.int 0)) σ2))))) : q_At G X_La_readChain (d + 1) 0 0 0 [some (.ref a0), some (.ref 3), some (.int p1), some (.int p2), none, none] [] σ Q := by
  refine q_aload_n o_La_readChain_0 rfl ?_
  refine q_aload_n o_La_readChain_1 rfl ?_
  refine q_iload_n o_La_readChain_2 rfl ?_
  refine q_iload_n o_La_readChain_3 rfl ?_
  refine q2_callVi _ (a := a0) (As := [.ref 3, .int p1, .int p2]) (st := []) hs o_La_readChain_4 k_La_43 (kd_La_0 ha0) rfl (Nat.le_of_ble_eq_true rfl) h (fun x4 σ2 hs3 h1 => ?_)
  refine q_if_ne o_La_readChain_7 (fun c5 => ?_) (fun c5 => ?_)
  · have h6 := h1.1 c5
    refine q_iconst (v := 0) o_La_readChain_12 (by decide) ?_
    refine q2_ist (ls' := [some (.ref a0), some (.ref 3), some (.int p1), some (.int p2), some (.int 0), none]) o_La_readChain_13 (Nat.le_of_ble_eq_true rfl) rfl ?_
    exact h6
  · have h7 := h1.2 c5
    refine q_iconst (v := 0) o_La_readChain_10 (by decide) ?_
    exact q_zre o_La_readChain_11 rfl rfl h7

set_option maxRecDepth 20000 in
theorem v_La_readChain_15 {G : q_G} {d : Nat} {σ : q_S} {Q : Option Value → q_S → Prop} {a0 : Nat} {p1 : Int32} {p2 : Int32} {l4 : Int32} (ha0 : q_isLa a0) (hs : q_Sh σ) (h : ((1000 ≤ l4 → Q (some (.int 1)) σ) ∧ (¬ 1000 ≤ l4 → q_Call G d 0 0 X_Tk_isWord [.ref 3, .ref (1001 + 23)] σ (q_ri (fun x7 σ5 => ((¬ x7 = 0 → q_Call G d 0 0 X_Tk_isWord [.ref 3, .ref (1001 + 23)] σ5 (q_ri (fun x13 σ11 => q_Call G d 0 0 X_Tk_advance [.ref 3] σ11 (q_rv (fun σ16 => q_Call G d 0 0 X_La_readTest [.ref a0, .ref 3, .int p1, .int p2] σ16 (q_ri (fun x21 σ19 => ((¬ x21 = 0 → q_Call G d 0 0 X_La_addStep [.ref a0, .int (if x13 = 0 then ((-6) : Int32) else ((-5) : Int32))] σ19 (q_rv (fun σ25 => q_At G X_La_readChain (d + 1) 0 0 15 [some (.ref a0), some (.ref 3), some (.int p1), some (.int p2), some (.int (l4 + 1)), none] [] σ25 Q))) ∧ (x21 = 0 → Q (some (.int 0)) σ19))))))))) ∧ (x7 = 0 → q_Call G d 0 0 X_Tk_isWord [.ref 3, .ref (1001 + 24)] σ5 (q_ri (fun x32 σ30 => ((x32 = 0 → Q (some (.int 1)) σ30) ∧ (¬ x32 = 0 → q_Call G d 0 0 X_Tk_isWord [.ref 3, .ref (1001 + 23)] σ30 (q_ri (fun x39 σ37 => q_Call G d 0 0 X_Tk_advance [.ref 3] σ37 (q_rv (fun σ42 => q_Call G d 0 0 X_La_readTest [.ref a0, .ref 3, .int p1, .int p2] σ42 (q_ri (fun x47 σ45 => ((¬ x47 = 0 → q_Call G d 0 0 X_La_addStep [.ref a0, .int (if x39 = 0 then ((-6) : Int32) else ((-5) : Int32))] σ45 (q_rv (fun σ51 => q_At G X_La_readChain (d + 1) 0 0 15 [some (.ref a0), some (.ref 3), some (.int p1), some (.int p2), some (.int (l4 + 1)), none] [] σ51 Q))) ∧ (x47 = 0 → Q (some (.int 0)) σ45))))))))))))))))))) : q_At G X_La_readChain (d + 1) 0 0 15 [some (.ref a0), some (.ref 3), some (.int p1), some (.int p2), some (.int l4), none] [] σ Q := by
  refine q_iload o_La_readChain_15 rfl ?_
  refine q_sipush (v := 1000) o_La_readChain_17 (by decide) ?_
  refine q_icmp_ge o_La_readChain_20 (fun c1 => ?_) (fun c1 => ?_)
  · have h2 := h.1 c1
    refine q_iconst (v := 1) o_La_readChain_90 (by decide) ?_
    exact q_zre o_La_readChain_91 rfl rfl h2
  · have h3 := h.2 c1
    refine q_aload_n o_La_readChain_23 rfl ?_
    refine q_gets (w := .ref (1001 + 23)) o_La_readChain_24 s_La_47 (fun U H hh => (hh.1 23 (by decide)).1) ?_
    refine q2_callVi _ (a := 3) (As := [.ref (1001 + 23)]) (st := []) hs o_La_readChain_27 k_La_53 rfl rfl (Nat.le_of_ble_eq_true rfl) h3 (fun x7 σ5 hs6 h4 => ?_)
    refine q_if_ne o_La_readChain_30 (fun c8 => ?_) (fun c8 => ?_)
    · have h9 := h4.1 c8
      refine q_aload_n o_La_readChain_43 rfl ?_
      refine q_gets (w := .ref (1001 + 23)) o_La_readChain_44 s_La_47 (fun U H hh => (hh.1 23 (by decide)).1) ?_
      refine q2_callVi _ (a := 3) (As := [.ref (1001 + 23)]) (st := []) hs6 o_La_readChain_47 k_La_53 rfl rfl (Nat.le_of_ble_eq_true rfl) h9 (fun x13 σ11 hs12 h10 => ?_)
      have hJ : ∀ vJ : Int32, vJ = (if x13 = 0 then ((-6) : Int32) else ((-5) : Int32)) → q_At G X_La_readChain (d + 1) 0 0 60 [some (.ref a0), some (.ref 3), some (.int p1), some (.int p2), some (.int l4), none] [.int vJ] σ11 Q := by
        intro vJ eJ
        rw [eJ]
        clear eJ vJ
        refine q2_ist (ls' := [some (.ref a0), some (.ref 3), some (.int p1), some (.int p2), some (.int l4), some (.int (if x13 = 0 then ((-6) : Int32) else ((-5) : Int32)))]) o_La_readChain_60 (Nat.le_of_ble_eq_true rfl) rfl ?_
        refine q_aload_n o_La_readChain_62 rfl ?_
        refine q2_callVv _ (a := 3) (As := []) (st := []) hs12 o_La_readChain_63 k_La_62 rfl rfl (Nat.le_of_ble_eq_true rfl) h10 (fun σ16 hs17 h15 => ?_)
        refine q_aload_n o_La_readChain_66 rfl ?_
        refine q_aload_n o_La_readChain_67 rfl ?_
        refine q_iload_n o_La_readChain_68 rfl ?_
        refine q_iload_n o_La_readChain_69 rfl ?_
        refine q2_callVi _ (a := a0) (As := [.ref 3, .int p1, .int p2]) (st := []) hs17 o_La_readChain_70 k_La_43 (kd_La_0 ha0) rfl (Nat.le_of_ble_eq_true rfl) h15 (fun x21 σ19 hs20 h18 => ?_)
        refine q_if_ne o_La_readChain_73 (fun c22 => ?_) (fun c22 => ?_)
        · have h23 := h18.1 c22
          refine q_aload_n o_La_readChain_78 rfl ?_
          refine q_iload o_La_readChain_79 rfl ?_
          refine q2_callVv _ (a := a0) (As := [.int (if x13 = 0 then ((-6) : Int32) else ((-5) : Int32))]) (st := []) hs20 o_La_readChain_81 k_La_35 (kd_La_0 ha0) rfl (Nat.le_of_ble_eq_true rfl) h23 (fun σ25 hs26 h24 => ?_)
          refine q2_inc (v := (l4 + 1)) (ls' := [some (.ref a0), some (.ref 3), some (.int p1), some (.int p2), some (.int (l4 + 1)), some (.int (if x13 = 0 then ((-6) : Int32) else ((-5) : Int32)))]) o_La_readChain_84 rfl rfl (Nat.le_of_ble_eq_true rfl) rfl ?_
          refine q_goto o_La_readChain_87 ?_
          exact q_weak (ls' := [some (.ref a0), some (.ref 3), some (.int p1), some (.int p2), some (.int (l4 + 1)), none]) (And.intro rfl (And.intro rfl (And.intro rfl (And.intro rfl (And.intro rfl trivial))))) h24
        · have h27 := h18.2 c22
          refine q_iconst (v := 0) o_La_readChain_76 (by decide) ?_
          exact q_zre o_La_readChain_77 rfl rfl h27
      refine q_if_eq o_La_readChain_50 (fun c14 => ?_) (fun c14 => ?_)
      · refine q_bipush (v := (-6)) o_La_readChain_58 (by decide) ?_
        exact hJ _ (Eq.symm (if_pos c14))
      · refine q_bipush (v := (-5)) o_La_readChain_53 (by decide) ?_
        refine q_goto o_La_readChain_55 ?_
        exact hJ _ (Eq.symm (if_neg c14))
    · have h28 := h4.2 c8
      refine q_aload_n o_La_readChain_33 rfl ?_
      refine q_gets (w := .ref (1001 + 24)) o_La_readChain_34 s_La_59 (fun U H hh => (hh.1 24 (by decide)).1) ?_
      refine q2_callVi _ (a := 3) (As := [.ref (1001 + 24)]) (st := []) hs6 o_La_readChain_37 k_La_53 rfl rfl (Nat.le_of_ble_eq_true rfl) h28 (fun x32 σ30 hs31 h29 => ?_)
      refine q_if_eq o_La_readChain_40 (fun c33 => ?_) (fun c33 => ?_)
      · have h34 := h29.1 c33
        refine q_iconst (v := 1) o_La_readChain_90 (by decide) ?_
        exact q_zre o_La_readChain_91 rfl rfl h34
      · have h35 := h29.2 c33
        refine q_aload_n o_La_readChain_43 rfl ?_
        refine q_gets (w := .ref (1001 + 23)) o_La_readChain_44 s_La_47 (fun U H hh => (hh.1 23 (by decide)).1) ?_
        refine q2_callVi _ (a := 3) (As := [.ref (1001 + 23)]) (st := []) hs31 o_La_readChain_47 k_La_53 rfl rfl (Nat.le_of_ble_eq_true rfl) h35 (fun x39 σ37 hs38 h36 => ?_)
        have hJ : ∀ vJ : Int32, vJ = (if x39 = 0 then ((-6) : Int32) else ((-5) : Int32)) → q_At G X_La_readChain (d + 1) 0 0 60 [some (.ref a0), some (.ref 3), some (.int p1), some (.int p2), some (.int l4), none] [.int vJ] σ37 Q := by
          intro vJ eJ
          rw [eJ]
          clear eJ vJ
          refine q2_ist (ls' := [some (.ref a0), some (.ref 3), some (.int p1), some (.int p2), some (.int l4), some (.int (if x39 = 0 then ((-6) : Int32) else ((-5) : Int32)))]) o_La_readChain_60 (Nat.le_of_ble_eq_true rfl) rfl ?_
          refine q_aload_n o_La_readChain_62 rfl ?_
          refine q2_callVv _ (a := 3) (As := []) (st := []) hs38 o_La_readChain_63 k_La_62 rfl rfl (Nat.le_of_ble_eq_true rfl) h36 (fun σ42 hs43 h41 => ?_)
          refine q_aload_n o_La_readChain_66 rfl ?_
          refine q_aload_n o_La_readChain_67 rfl ?_
          refine q_iload_n o_La_readChain_68 rfl ?_
          refine q_iload_n o_La_readChain_69 rfl ?_
          refine q2_callVi _ (a := a0) (As := [.ref 3, .int p1, .int p2]) (st := []) hs43 o_La_readChain_70 k_La_43 (kd_La_0 ha0) rfl (Nat.le_of_ble_eq_true rfl) h41 (fun x47 σ45 hs46 h44 => ?_)
          refine q_if_ne o_La_readChain_73 (fun c48 => ?_) (fun c48 => ?_)
          · have h49 := h44.1 c48
            refine q_aload_n o_La_readChain_78 rfl ?_
            refine q_iload o_La_readChain_79 rfl ?_
            refine q2_callVv _ (a := a0) (As := [.int (if x39 = 0 then ((-6) : Int32) else ((-5) : Int32))]) (st := []) hs46 o_La_readChain_81 k_La_35 (kd_La_0 ha0) rfl (Nat.le_of_ble_eq_true rfl) h49 (fun σ51 hs52 h50 => ?_)
            refine q2_inc (v := (l4 + 1)) (ls' := [some (.ref a0), some (.ref 3), some (.int p1), some (.int p2), some (.int (l4 + 1)), some (.int (if x39 = 0 then ((-6) : Int32) else ((-5) : Int32)))]) o_La_readChain_84 rfl rfl (Nat.le_of_ble_eq_true rfl) rfl ?_
            refine q_goto o_La_readChain_87 ?_
            exact q_weak (ls' := [some (.ref a0), some (.ref 3), some (.int p1), some (.int p2), some (.int (l4 + 1)), none]) (And.intro rfl (And.intro rfl (And.intro rfl (And.intro rfl (And.intro rfl trivial))))) h50
          · have h53 := h44.2 c48
            refine q_iconst (v := 0) o_La_readChain_76 (by decide) ?_
            exact q_zre o_La_readChain_77 rfl rfl h53
        refine q_if_eq o_La_readChain_50 (fun c40 => ?_) (fun c40 => ?_)
        · refine q_bipush (v := (-6)) o_La_readChain_58 (by decide) ?_
          exact hJ _ (Eq.symm (if_pos c40))
        · refine q_bipush (v := (-5)) o_La_readChain_53 (by decide) ?_
          refine q_goto o_La_readChain_55 ?_
          exact hJ _ (Eq.symm (if_neg c40))

set_option maxRecDepth 20000 in
theorem v_La_readTest_0 {G : q_G} {d : Nat} {σ : q_S} {Q : Option Value → q_S → Prop} {a0 : Nat} {p1 : Int32} {p2 : Int32} (ha0 : q_isLa a0) (hs : q_Sh σ) (h : q_Call G d 0 0 X_La_readSum [.ref a0, .ref 3, .int p1, .int p2] σ (q_ri (fun x4 σ2 => ((¬ x4 = 0 → q_Call G d 0 0 X_Tk_isSign [.ref 3, .int 60] σ2 (q_ri (fun x10 σ8 => ((¬ x10 = 0 → q_Call G d 0 0 X_Tk_isSign [.ref 3, .int 60] σ8 (q_ri (fun x16 σ14 => q_Call G d 0 0 X_Tk_advance [.ref 3] σ14 (q_rv (fun σ19 => q_Call G d 0 0 X_La_readSum [.ref a0, .ref 3, .int p1, .int p2] σ19 (q_ri (fun x24 σ22 => ((¬ x24 = 0 → q_Call G d 0 0 X_La_addStep [.ref a0, .int (if x16 = 0 then ((-8) : Int32) else ((-7) : Int32))] σ22 (q_rv (fun σ28 => Q (some (.int 1)) σ28))) ∧ (x24 = 0 → Q (some (.int 0)) σ22))))))))) ∧ (x10 = 0 → q_Call G d 0 0 X_Tk_isSign [.ref 3, .int 61] σ8 (q_ri (fun x35 σ33 => ((¬ x35 = 0 → q_Call G d 0 0 X_Tk_isSign [.ref 3, .int 60] σ33 (q_ri (fun x41 σ39 => q_Call G d 0 0 X_Tk_advance [.ref 3] σ39 (q_rv (fun σ44 => q_Call G d 0 0 X_La_readSum [.ref a0, .ref 3, .int p1, .int p2] σ44 (q_ri (fun x49 σ47 => ((¬ x49 = 0 → q_Call G d 0 0 X_La_addStep [.ref a0, .int (if x41 = 0 then ((-8) : Int32) else ((-7) : Int32))] σ47 (q_rv (fun σ53 => Q (some (.int 1)) σ53))) ∧ (x49 = 0 → Q (some (.int 0)) σ47))))))))) ∧ (x35 = 0 → Q (some (.int 1)) σ33))))))))) ∧ (x4 = 0 → Q (some (.int 0)) σ2))))) : q_At G X_La_readTest (d + 1) 0 0 0 [some (.ref a0), some (.ref 3), some (.int p1), some (.int p2), none] [] σ Q := by
  refine q_aload_n o_La_readTest_0 rfl ?_
  refine q_aload_n o_La_readTest_1 rfl ?_
  refine q_iload_n o_La_readTest_2 rfl ?_
  refine q_iload_n o_La_readTest_3 rfl ?_
  refine q2_callVi _ (a := a0) (As := [.ref 3, .int p1, .int p2]) (st := []) hs o_La_readTest_4 k_La_65 (kd_La_0 ha0) rfl (Nat.le_of_ble_eq_true rfl) h (fun x4 σ2 hs3 h1 => ?_)
  refine q_if_ne o_La_readTest_7 (fun c5 => ?_) (fun c5 => ?_)
  · have h6 := h1.1 c5
    refine q_aload_n o_La_readTest_12 rfl ?_
    refine q_bipush (v := 60) o_La_readTest_13 (by decide) ?_
    refine q2_callVi _ (a := 3) (As := [.int 60]) (st := []) hs3 o_La_readTest_15 k_La_68 rfl rfl (Nat.le_of_ble_eq_true rfl) h6 (fun x10 σ8 hs9 h7 => ?_)
    refine q_if_ne o_La_readTest_18 (fun c11 => ?_) (fun c11 => ?_)
    · have h12 := h7.1 c11
      refine q_aload_n o_La_readTest_32 rfl ?_
      refine q_bipush (v := 60) o_La_readTest_33 (by decide) ?_
      refine q2_callVi _ (a := 3) (As := [.int 60]) (st := []) hs9 o_La_readTest_35 k_La_68 rfl rfl (Nat.le_of_ble_eq_true rfl) h12 (fun x16 σ14 hs15 h13 => ?_)
      have hJ : ∀ vJ : Int32, vJ = (if x16 = 0 then ((-8) : Int32) else ((-7) : Int32)) → q_At G X_La_readTest (d + 1) 0 0 48 [some (.ref a0), some (.ref 3), some (.int p1), some (.int p2), none] [.int vJ] σ14 Q := by
        intro vJ eJ
        rw [eJ]
        clear eJ vJ
        refine q2_ist (ls' := [some (.ref a0), some (.ref 3), some (.int p1), some (.int p2), some (.int (if x16 = 0 then ((-8) : Int32) else ((-7) : Int32)))]) o_La_readTest_48 (Nat.le_of_ble_eq_true rfl) rfl ?_
        refine q_aload_n o_La_readTest_50 rfl ?_
        refine q2_callVv _ (a := 3) (As := []) (st := []) hs15 o_La_readTest_51 k_La_62 rfl rfl (Nat.le_of_ble_eq_true rfl) h13 (fun σ19 hs20 h18 => ?_)
        refine q_aload_n o_La_readTest_54 rfl ?_
        refine q_aload_n o_La_readTest_55 rfl ?_
        refine q_iload_n o_La_readTest_56 rfl ?_
        refine q_iload_n o_La_readTest_57 rfl ?_
        refine q2_callVi _ (a := a0) (As := [.ref 3, .int p1, .int p2]) (st := []) hs20 o_La_readTest_58 k_La_65 (kd_La_0 ha0) rfl (Nat.le_of_ble_eq_true rfl) h18 (fun x24 σ22 hs23 h21 => ?_)
        refine q_if_ne o_La_readTest_61 (fun c25 => ?_) (fun c25 => ?_)
        · have h26 := h21.1 c25
          refine q_aload_n o_La_readTest_66 rfl ?_
          refine q_iload o_La_readTest_67 rfl ?_
          refine q2_callVv _ (a := a0) (As := [.int (if x16 = 0 then ((-8) : Int32) else ((-7) : Int32))]) (st := []) hs23 o_La_readTest_69 k_La_35 (kd_La_0 ha0) rfl (Nat.le_of_ble_eq_true rfl) h26 (fun σ28 hs29 h27 => ?_)
          refine q_iconst (v := 1) o_La_readTest_72 (by decide) ?_
          exact q_zre o_La_readTest_73 rfl rfl h27
        · have h30 := h21.2 c25
          refine q_iconst (v := 0) o_La_readTest_64 (by decide) ?_
          exact q_zre o_La_readTest_65 rfl rfl h30
      refine q_if_eq o_La_readTest_38 (fun c17 => ?_) (fun c17 => ?_)
      · refine q_bipush (v := (-8)) o_La_readTest_46 (by decide) ?_
        exact hJ _ (Eq.symm (if_pos c17))
      · refine q_bipush (v := (-7)) o_La_readTest_41 (by decide) ?_
        refine q_goto o_La_readTest_43 ?_
        exact hJ _ (Eq.symm (if_neg c17))
    · have h31 := h7.2 c11
      refine q_aload_n o_La_readTest_21 rfl ?_
      refine q_bipush (v := 61) o_La_readTest_22 (by decide) ?_
      refine q2_callVi _ (a := 3) (As := [.int 61]) (st := []) hs9 o_La_readTest_24 k_La_68 rfl rfl (Nat.le_of_ble_eq_true rfl) h31 (fun x35 σ33 hs34 h32 => ?_)
      refine q_if_ne o_La_readTest_27 (fun c36 => ?_) (fun c36 => ?_)
      · have h37 := h32.1 c36
        refine q_aload_n o_La_readTest_32 rfl ?_
        refine q_bipush (v := 60) o_La_readTest_33 (by decide) ?_
        refine q2_callVi _ (a := 3) (As := [.int 60]) (st := []) hs34 o_La_readTest_35 k_La_68 rfl rfl (Nat.le_of_ble_eq_true rfl) h37 (fun x41 σ39 hs40 h38 => ?_)
        have hJ : ∀ vJ : Int32, vJ = (if x41 = 0 then ((-8) : Int32) else ((-7) : Int32)) → q_At G X_La_readTest (d + 1) 0 0 48 [some (.ref a0), some (.ref 3), some (.int p1), some (.int p2), none] [.int vJ] σ39 Q := by
          intro vJ eJ
          rw [eJ]
          clear eJ vJ
          refine q2_ist (ls' := [some (.ref a0), some (.ref 3), some (.int p1), some (.int p2), some (.int (if x41 = 0 then ((-8) : Int32) else ((-7) : Int32)))]) o_La_readTest_48 (Nat.le_of_ble_eq_true rfl) rfl ?_
          refine q_aload_n o_La_readTest_50 rfl ?_
          refine q2_callVv _ (a := 3) (As := []) (st := []) hs40 o_La_readTest_51 k_La_62 rfl rfl (Nat.le_of_ble_eq_true rfl) h38 (fun σ44 hs45 h43 => ?_)
          refine q_aload_n o_La_readTest_54 rfl ?_
          refine q_aload_n o_La_readTest_55 rfl ?_
          refine q_iload_n o_La_readTest_56 rfl ?_
          refine q_iload_n o_La_readTest_57 rfl ?_
          refine q2_callVi _ (a := a0) (As := [.ref 3, .int p1, .int p2]) (st := []) hs45 o_La_readTest_58 k_La_65 (kd_La_0 ha0) rfl (Nat.le_of_ble_eq_true rfl) h43 (fun x49 σ47 hs48 h46 => ?_)
          refine q_if_ne o_La_readTest_61 (fun c50 => ?_) (fun c50 => ?_)
          · have h51 := h46.1 c50
            refine q_aload_n o_La_readTest_66 rfl ?_
            refine q_iload o_La_readTest_67 rfl ?_
            refine q2_callVv _ (a := a0) (As := [.int (if x41 = 0 then ((-8) : Int32) else ((-7) : Int32))]) (st := []) hs48 o_La_readTest_69 k_La_35 (kd_La_0 ha0) rfl (Nat.le_of_ble_eq_true rfl) h51 (fun σ53 hs54 h52 => ?_)
            refine q_iconst (v := 1) o_La_readTest_72 (by decide) ?_
            exact q_zre o_La_readTest_73 rfl rfl h52
          · have h55 := h46.2 c50
            refine q_iconst (v := 0) o_La_readTest_64 (by decide) ?_
            exact q_zre o_La_readTest_65 rfl rfl h55
        refine q_if_eq o_La_readTest_38 (fun c42 => ?_) (fun c42 => ?_)
        · refine q_bipush (v := (-8)) o_La_readTest_46 (by decide) ?_
          exact hJ _ (Eq.symm (if_pos c42))
        · refine q_bipush (v := (-7)) o_La_readTest_41 (by decide) ?_
          refine q_goto o_La_readTest_43 ?_
          exact hJ _ (Eq.symm (if_neg c42))
      · have h56 := h32.2 c36
        refine q_iconst (v := 1) o_La_readTest_30 (by decide) ?_
        exact q_zre o_La_readTest_31 rfl rfl h56
  · have h57 := h1.2 c5
    refine q_iconst (v := 0) o_La_readTest_10 (by decide) ?_
    exact q_zre o_La_readTest_11 rfl rfl h57

set_option maxRecDepth 20000 in
theorem v_La_readSum_0 {G : q_G} {d : Nat} {σ : q_S} {Q : Option Value → q_S → Prop} {a0 : Nat} {p1 : Int32} {p2 : Int32} (ha0 : q_isLa a0) (hs : q_Sh σ) (h : q_Call G d 0 0 X_La_readProduct [.ref a0, .ref 3, .int p1, .int p2] σ (q_ri (fun x4 σ2 => ((¬ x4 = 0 → q_At G X_La_readSum (d + 1) 0 0 15 [some (.ref a0), some (.ref 3), some (.int p1), some (.int p2), some (.int 0), none] [] σ2 Q) ∧ (x4 = 0 → Q (some (.int 0)) σ2))))) : q_At G X_La_readSum (d + 1) 0 0 0 [some (.ref a0), some (.ref 3), some (.int p1), some (.int p2), none, none] [] σ Q := by
  refine q_aload_n o_La_readSum_0 rfl ?_
  refine q_aload_n o_La_readSum_1 rfl ?_
  refine q_iload_n o_La_readSum_2 rfl ?_
  refine q_iload_n o_La_readSum_3 rfl ?_
  refine q2_callVi _ (a := a0) (As := [.ref 3, .int p1, .int p2]) (st := []) hs o_La_readSum_4 k_La_72 (kd_La_0 ha0) rfl (Nat.le_of_ble_eq_true rfl) h (fun x4 σ2 hs3 h1 => ?_)
  refine q_if_ne o_La_readSum_7 (fun c5 => ?_) (fun c5 => ?_)
  · have h6 := h1.1 c5
    refine q_iconst (v := 0) o_La_readSum_12 (by decide) ?_
    refine q2_ist (ls' := [some (.ref a0), some (.ref 3), some (.int p1), some (.int p2), some (.int 0), none]) o_La_readSum_13 (Nat.le_of_ble_eq_true rfl) rfl ?_
    exact h6
  · have h7 := h1.2 c5
    refine q_iconst (v := 0) o_La_readSum_10 (by decide) ?_
    exact q_zre o_La_readSum_11 rfl rfl h7

set_option maxRecDepth 20000 in
theorem v_La_readSum_15 {G : q_G} {d : Nat} {σ : q_S} {Q : Option Value → q_S → Prop} {a0 : Nat} {p1 : Int32} {p2 : Int32} {l4 : Int32} (ha0 : q_isLa a0) (hs : q_Sh σ) (h : ((1000 ≤ l4 → Q (some (.int 1)) σ) ∧ (¬ 1000 ≤ l4 → q_Call G d 0 0 X_Tk_isSign [.ref 3, .int 43] σ (q_ri (fun x7 σ5 => ((¬ x7 = 0 → q_Call G d 0 0 X_Tk_isSign [.ref 3, .int 43] σ5 (q_ri (fun x13 σ11 => q_Call G d 0 0 X_Tk_advance [.ref 3] σ11 (q_rv (fun σ16 => q_Call G d 0 0 X_La_readProduct [.ref a0, .ref 3, .int p1, .int p2] σ16 (q_ri (fun x21 σ19 => ((¬ x21 = 0 → q_Call G d 0 0 X_La_addStep [.ref a0, .int (if x13 = 0 then ((-10) : Int32) else ((-9) : Int32))] σ19 (q_rv (fun σ25 => q_At G X_La_readSum (d + 1) 0 0 15 [some (.ref a0), some (.ref 3), some (.int p1), some (.int p2), some (.int (l4 + 1)), none] [] σ25 Q))) ∧ (x21 = 0 → Q (some (.int 0)) σ19))))))))) ∧ (x7 = 0 → q_Call G d 0 0 X_Tk_isSign [.ref 3, .int 45] σ5 (q_ri (fun x32 σ30 => ((x32 = 0 → Q (some (.int 1)) σ30) ∧ (¬ x32 = 0 → q_Call G d 0 0 X_Tk_isSign [.ref 3, .int 43] σ30 (q_ri (fun x39 σ37 => q_Call G d 0 0 X_Tk_advance [.ref 3] σ37 (q_rv (fun σ42 => q_Call G d 0 0 X_La_readProduct [.ref a0, .ref 3, .int p1, .int p2] σ42 (q_ri (fun x47 σ45 => ((¬ x47 = 0 → q_Call G d 0 0 X_La_addStep [.ref a0, .int (if x39 = 0 then ((-10) : Int32) else ((-9) : Int32))] σ45 (q_rv (fun σ51 => q_At G X_La_readSum (d + 1) 0 0 15 [some (.ref a0), some (.ref 3), some (.int p1), some (.int p2), some (.int (l4 + 1)), none] [] σ51 Q))) ∧ (x47 = 0 → Q (some (.int 0)) σ45))))))))))))))))))) : q_At G X_La_readSum (d + 1) 0 0 15 [some (.ref a0), some (.ref 3), some (.int p1), some (.int p2), some (.int l4), none] [] σ Q := by
  refine q_iload o_La_readSum_15 rfl ?_
  refine q_sipush (v := 1000) o_La_readSum_17 (by decide) ?_
  refine q_icmp_ge o_La_readSum_20 (fun c1 => ?_) (fun c1 => ?_)
  · have h2 := h.1 c1
    refine q_iconst (v := 1) o_La_readSum_87 (by decide) ?_
    exact q_zre o_La_readSum_88 rfl rfl h2
  · have h3 := h.2 c1
    refine q_aload_n o_La_readSum_23 rfl ?_
    refine q_bipush (v := 43) o_La_readSum_24 (by decide) ?_
    refine q2_callVi _ (a := 3) (As := [.int 43]) (st := []) hs o_La_readSum_26 k_La_68 rfl rfl (Nat.le_of_ble_eq_true rfl) h3 (fun x7 σ5 hs6 h4 => ?_)
    refine q_if_ne o_La_readSum_29 (fun c8 => ?_) (fun c8 => ?_)
    · have h9 := h4.1 c8
      refine q_aload_n o_La_readSum_41 rfl ?_
      refine q_bipush (v := 43) o_La_readSum_42 (by decide) ?_
      refine q2_callVi _ (a := 3) (As := [.int 43]) (st := []) hs6 o_La_readSum_44 k_La_68 rfl rfl (Nat.le_of_ble_eq_true rfl) h9 (fun x13 σ11 hs12 h10 => ?_)
      have hJ : ∀ vJ : Int32, vJ = (if x13 = 0 then ((-10) : Int32) else ((-9) : Int32)) → q_At G X_La_readSum (d + 1) 0 0 57 [some (.ref a0), some (.ref 3), some (.int p1), some (.int p2), some (.int l4), none] [.int vJ] σ11 Q := by
        intro vJ eJ
        rw [eJ]
        clear eJ vJ
        refine q2_ist (ls' := [some (.ref a0), some (.ref 3), some (.int p1), some (.int p2), some (.int l4), some (.int (if x13 = 0 then ((-10) : Int32) else ((-9) : Int32)))]) o_La_readSum_57 (Nat.le_of_ble_eq_true rfl) rfl ?_
        refine q_aload_n o_La_readSum_59 rfl ?_
        refine q2_callVv _ (a := 3) (As := []) (st := []) hs12 o_La_readSum_60 k_La_62 rfl rfl (Nat.le_of_ble_eq_true rfl) h10 (fun σ16 hs17 h15 => ?_)
        refine q_aload_n o_La_readSum_63 rfl ?_
        refine q_aload_n o_La_readSum_64 rfl ?_
        refine q_iload_n o_La_readSum_65 rfl ?_
        refine q_iload_n o_La_readSum_66 rfl ?_
        refine q2_callVi _ (a := a0) (As := [.ref 3, .int p1, .int p2]) (st := []) hs17 o_La_readSum_67 k_La_72 (kd_La_0 ha0) rfl (Nat.le_of_ble_eq_true rfl) h15 (fun x21 σ19 hs20 h18 => ?_)
        refine q_if_ne o_La_readSum_70 (fun c22 => ?_) (fun c22 => ?_)
        · have h23 := h18.1 c22
          refine q_aload_n o_La_readSum_75 rfl ?_
          refine q_iload o_La_readSum_76 rfl ?_
          refine q2_callVv _ (a := a0) (As := [.int (if x13 = 0 then ((-10) : Int32) else ((-9) : Int32))]) (st := []) hs20 o_La_readSum_78 k_La_35 (kd_La_0 ha0) rfl (Nat.le_of_ble_eq_true rfl) h23 (fun σ25 hs26 h24 => ?_)
          refine q2_inc (v := (l4 + 1)) (ls' := [some (.ref a0), some (.ref 3), some (.int p1), some (.int p2), some (.int (l4 + 1)), some (.int (if x13 = 0 then ((-10) : Int32) else ((-9) : Int32)))]) o_La_readSum_81 rfl rfl (Nat.le_of_ble_eq_true rfl) rfl ?_
          refine q_goto o_La_readSum_84 ?_
          exact q_weak (ls' := [some (.ref a0), some (.ref 3), some (.int p1), some (.int p2), some (.int (l4 + 1)), none]) (And.intro rfl (And.intro rfl (And.intro rfl (And.intro rfl (And.intro rfl trivial))))) h24
        · have h27 := h18.2 c22
          refine q_iconst (v := 0) o_La_readSum_73 (by decide) ?_
          exact q_zre o_La_readSum_74 rfl rfl h27
      refine q_if_eq o_La_readSum_47 (fun c14 => ?_) (fun c14 => ?_)
      · refine q_bipush (v := (-10)) o_La_readSum_55 (by decide) ?_
        exact hJ _ (Eq.symm (if_pos c14))
      · refine q_bipush (v := (-9)) o_La_readSum_50 (by decide) ?_
        refine q_goto o_La_readSum_52 ?_
        exact hJ _ (Eq.symm (if_neg c14))
    · have h28 := h4.2 c8
      refine q_aload_n o_La_readSum_32 rfl ?_
      refine q_bipush (v := 45) o_La_readSum_33 (by decide) ?_
      refine q2_callVi _ (a := 3) (As := [.int 45]) (st := []) hs6 o_La_readSum_35 k_La_68 rfl rfl (Nat.le_of_ble_eq_true rfl) h28 (fun x32 σ30 hs31 h29 => ?_)
      refine q_if_eq o_La_readSum_38 (fun c33 => ?_) (fun c33 => ?_)
      · have h34 := h29.1 c33
        refine q_iconst (v := 1) o_La_readSum_87 (by decide) ?_
        exact q_zre o_La_readSum_88 rfl rfl h34
      · have h35 := h29.2 c33
        refine q_aload_n o_La_readSum_41 rfl ?_
        refine q_bipush (v := 43) o_La_readSum_42 (by decide) ?_
        refine q2_callVi _ (a := 3) (As := [.int 43]) (st := []) hs31 o_La_readSum_44 k_La_68 rfl rfl (Nat.le_of_ble_eq_true rfl) h35 (fun x39 σ37 hs38 h36 => ?_)
        have hJ : ∀ vJ : Int32, vJ = (if x39 = 0 then ((-10) : Int32) else ((-9) : Int32)) → q_At G X_La_readSum (d + 1) 0 0 57 [some (.ref a0), some (.ref 3), some (.int p1), some (.int p2), some (.int l4), none] [.int vJ] σ37 Q := by
          intro vJ eJ
          rw [eJ]
          clear eJ vJ
          refine q2_ist (ls' := [some (.ref a0), some (.ref 3), some (.int p1), some (.int p2), some (.int l4), some (.int (if x39 = 0 then ((-10) : Int32) else ((-9) : Int32)))]) o_La_readSum_57 (Nat.le_of_ble_eq_true rfl) rfl ?_
          refine q_aload_n o_La_readSum_59 rfl ?_
          refine q2_callVv _ (a := 3) (As := []) (st := []) hs38 o_La_readSum_60 k_La_62 rfl rfl (Nat.le_of_ble_eq_true rfl) h36 (fun σ42 hs43 h41 => ?_)
          refine q_aload_n o_La_readSum_63 rfl ?_
          refine q_aload_n o_La_readSum_64 rfl ?_
          refine q_iload_n o_La_readSum_65 rfl ?_
          refine q_iload_n o_La_readSum_66 rfl ?_
          refine q2_callVi _ (a := a0) (As := [.ref 3, .int p1, .int p2]) (st := []) hs43 o_La_readSum_67 k_La_72 (kd_La_0 ha0) rfl (Nat.le_of_ble_eq_true rfl) h41 (fun x47 σ45 hs46 h44 => ?_)
          refine q_if_ne o_La_readSum_70 (fun c48 => ?_) (fun c48 => ?_)
          · have h49 := h44.1 c48
            refine q_aload_n o_La_readSum_75 rfl ?_
            refine q_iload o_La_readSum_76 rfl ?_
            refine q2_callVv _ (a := a0) (As := [.int (if x39 = 0 then ((-10) : Int32) else ((-9) : Int32))]) (st := []) hs46 o_La_readSum_78 k_La_35 (kd_La_0 ha0) rfl (Nat.le_of_ble_eq_true rfl) h49 (fun σ51 hs52 h50 => ?_)
            refine q2_inc (v := (l4 + 1)) (ls' := [some (.ref a0), some (.ref 3), some (.int p1), some (.int p2), some (.int (l4 + 1)), some (.int (if x39 = 0 then ((-10) : Int32) else ((-9) : Int32)))]) o_La_readSum_81 rfl rfl (Nat.le_of_ble_eq_true rfl) rfl ?_
            refine q_goto o_La_readSum_84 ?_
            exact q_weak (ls' := [some (.ref a0), some (.ref 3), some (.int p1), some (.int p2), some (.int (l4 + 1)), none]) (And.intro rfl (And.intro rfl (And.intro rfl (And.intro rfl (And.intro rfl trivial))))) h50
          · have h53 := h44.2 c48
            refine q_iconst (v := 0) o_La_readSum_73 (by decide) ?_
            exact q_zre o_La_readSum_74 rfl rfl h53
        refine q_if_eq o_La_readSum_47 (fun c40 => ?_) (fun c40 => ?_)
        · refine q_bipush (v := (-10)) o_La_readSum_55 (by decide) ?_
          exact hJ _ (Eq.symm (if_pos c40))
        · refine q_bipush (v := (-9)) o_La_readSum_50 (by decide) ?_
          refine q_goto o_La_readSum_52 ?_
          exact hJ _ (Eq.symm (if_neg c40))

set_option maxRecDepth 20000 in
theorem v_La_readProduct_0 {G : q_G} {d : Nat} {σ : q_S} {Q : Option Value → q_S → Prop} {a0 : Nat} {p1 : Int32} {p2 : Int32} (ha0 : q_isLa a0) (hs : q_Sh σ) (h : q_Call G d 0 0 X_La_readPart [.ref a0, .ref 3, .int p1, .int p2] σ (q_ri (fun x4 σ2 => ((¬ x4 = 0 → q_At G X_La_readProduct (d + 1) 0 0 15 [some (.ref a0), some (.ref 3), some (.int p1), some (.int p2), some (.int 0)] [] σ2 Q) ∧ (x4 = 0 → Q (some (.int 0)) σ2))))) : q_At G X_La_readProduct (d + 1) 0 0 0 [some (.ref a0), some (.ref 3), some (.int p1), some (.int p2), none] [] σ Q := by
  refine q_aload_n o_La_readProduct_0 rfl ?_
  refine q_aload_n o_La_readProduct_1 rfl ?_
  refine q_iload_n o_La_readProduct_2 rfl ?_
  refine q_iload_n o_La_readProduct_3 rfl ?_
  refine q2_callVi _ (a := a0) (As := [.ref 3, .int p1, .int p2]) (st := []) hs o_La_readProduct_4 k_La_75 (kd_La_0 ha0) rfl (Nat.le_of_ble_eq_true rfl) h (fun x4 σ2 hs3 h1 => ?_)
  refine q_if_ne o_La_readProduct_7 (fun c5 => ?_) (fun c5 => ?_)
  · have h6 := h1.1 c5
    refine q_iconst (v := 0) o_La_readProduct_12 (by decide) ?_
    refine q2_ist (ls' := [some (.ref a0), some (.ref 3), some (.int p1), some (.int p2), some (.int 0)]) o_La_readProduct_13 (Nat.le_of_ble_eq_true rfl) rfl ?_
    exact h6
  · have h7 := h1.2 c5
    refine q_iconst (v := 0) o_La_readProduct_10 (by decide) ?_
    exact q_zre o_La_readProduct_11 rfl rfl h7

set_option maxRecDepth 20000 in
theorem v_La_readProduct_15 {G : q_G} {d : Nat} {σ : q_S} {Q : Option Value → q_S → Prop} {a0 : Nat} {p1 : Int32} {p2 : Int32} {l4 : Int32} (ha0 : q_isLa a0) (hs : q_Sh σ) (h : ((1000 ≤ l4 → Q (some (.int 1)) σ) ∧ (¬ 1000 ≤ l4 → q_Call G d 0 0 X_Tk_isSign [.ref 3, .int 42] σ (q_ri (fun x7 σ5 => ((x7 = 0 → Q (some (.int 1)) σ5) ∧ (¬ x7 = 0 → q_Call G d 0 0 X_Tk_advance [.ref 3] σ5 (q_rv (fun σ12 => q_Call G d 0 0 X_La_readPart [.ref a0, .ref 3, .int p1, .int p2] σ12 (q_ri (fun x17 σ15 => ((¬ x17 = 0 → q_Call G d 0 0 X_La_addStep [.ref a0, .int (-11)] σ15 (q_rv (fun σ21 => q_At G X_La_readProduct (d + 1) 0 0 15 [some (.ref a0), some (.ref 3), some (.int p1), some (.int p2), some (.int (l4 + 1))] [] σ21 Q))) ∧ (x17 = 0 → Q (some (.int 0)) σ15))))))))))))) : q_At G X_La_readProduct (d + 1) 0 0 15 [some (.ref a0), some (.ref 3), some (.int p1), some (.int p2), some (.int l4)] [] σ Q := by
  refine q_iload o_La_readProduct_15 rfl ?_
  refine q_sipush (v := 1000) o_La_readProduct_17 (by decide) ?_
  refine q_icmp_ge o_La_readProduct_20 (fun c1 => ?_) (fun c1 => ?_)
  · have h2 := h.1 c1
    refine q_iconst (v := 1) o_La_readProduct_60 (by decide) ?_
    exact q_zre o_La_readProduct_61 rfl rfl h2
  · have h3 := h.2 c1
    refine q_aload_n o_La_readProduct_23 rfl ?_
    refine q_bipush (v := 42) o_La_readProduct_24 (by decide) ?_
    refine q2_callVi _ (a := 3) (As := [.int 42]) (st := []) hs o_La_readProduct_26 k_La_68 rfl rfl (Nat.le_of_ble_eq_true rfl) h3 (fun x7 σ5 hs6 h4 => ?_)
    refine q_if_eq o_La_readProduct_29 (fun c8 => ?_) (fun c8 => ?_)
    · have h9 := h4.1 c8
      refine q_iconst (v := 1) o_La_readProduct_60 (by decide) ?_
      exact q_zre o_La_readProduct_61 rfl rfl h9
    · have h10 := h4.2 c8
      refine q_aload_n o_La_readProduct_32 rfl ?_
      refine q2_callVv _ (a := 3) (As := []) (st := []) hs6 o_La_readProduct_33 k_La_62 rfl rfl (Nat.le_of_ble_eq_true rfl) h10 (fun σ12 hs13 h11 => ?_)
      refine q_aload_n o_La_readProduct_36 rfl ?_
      refine q_aload_n o_La_readProduct_37 rfl ?_
      refine q_iload_n o_La_readProduct_38 rfl ?_
      refine q_iload_n o_La_readProduct_39 rfl ?_
      refine q2_callVi _ (a := a0) (As := [.ref 3, .int p1, .int p2]) (st := []) hs13 o_La_readProduct_40 k_La_75 (kd_La_0 ha0) rfl (Nat.le_of_ble_eq_true rfl) h11 (fun x17 σ15 hs16 h14 => ?_)
      refine q_if_ne o_La_readProduct_43 (fun c18 => ?_) (fun c18 => ?_)
      · have h19 := h14.1 c18
        refine q_aload_n o_La_readProduct_48 rfl ?_
        refine q_bipush (v := (-11)) o_La_readProduct_49 (by decide) ?_
        refine q2_callVv _ (a := a0) (As := [.int (-11)]) (st := []) hs16 o_La_readProduct_51 k_La_35 (kd_La_0 ha0) rfl (Nat.le_of_ble_eq_true rfl) h19 (fun σ21 hs22 h20 => ?_)
        refine q2_inc (v := (l4 + 1)) (ls' := [some (.ref a0), some (.ref 3), some (.int p1), some (.int p2), some (.int (l4 + 1))]) o_La_readProduct_54 rfl rfl (Nat.le_of_ble_eq_true rfl) rfl ?_
        refine q_goto o_La_readProduct_57 ?_
        exact h20
      · have h23 := h14.2 c18
        refine q_iconst (v := 0) o_La_readProduct_46 (by decide) ?_
        exact q_zre o_La_readProduct_47 rfl rfl h23

set_option maxRecDepth 20000 in
theorem v_La_readPart_0 {G : q_G} {d : Nat} {σ : q_S} {Q : Option Value → q_S → Prop} {a0 : Nat} {p1 : Int32} {p2 : Int32} (ha0 : q_isLa a0) (hs : q_Sh σ) (h : q_Call G d 0 0 X_La_factHere [.ref 3, .int p1] σ (q_ri (fun x4 σ2 => q_Call G d 0 0 X_Tk_isWord [.ref 3, .ref (1001 + 22)] σ2 (q_ri (fun x9 σ7 => ((¬ (if (q_I σ2 3 1) = 2 then (1 : Int32) else (0 : Int32)) = 0 → ((p2 < 5 → ((¬ (if (q_I σ2 3 1) = 2 then (1 : Int32) else (0 : Int32)) = 0 → q_Call G d 0 0 X_La_addStep [.ref a0, .int (if (if (q_I σ2 3 1) = 2 then (1 : Int32) else (0 : Int32)) = 0 then ((-1) - x4) else (q_I σ7 3 6))] σ7 (q_rv (fun σ18 => q_Call G d 0 0 X_Tk_advance [.ref 3] σ18 (q_rv (fun σ21 => Q (some (.int 1)) σ21))))) ∧ ((if (q_I σ2 3 1) = 2 then (1 : Int32) else (0 : Int32)) = 0 → ((x4 = (-1) → q_Call G d 0 0 X_Tk_advance [.ref 3] σ7 (q_rv (fun σ27 => ((¬ x9 = 0 → q_Call G d 0 0 X_La_readPart [.ref a0, .ref 3, .int p1, .int (p2 + 1)] σ27 (q_ri (fun x34 σ32 => ((¬ x34 = 0 → q_Call G d 0 0 X_La_addStep [.ref a0, .int (-4)] σ32 (q_rv (fun σ38 => Q (some (.int 1)) σ38))) ∧ (x34 = 0 → Q (some (.int 0)) σ32))))) ∧ (x9 = 0 → q_Call G d 0 0 X_La_readChain [.ref a0, .ref 3, .int p1, .int (p2 + 1)] σ27 (q_ri (fun x45 σ43 => ((x45 = 0 → Q (some (.int 0)) σ43) ∧ (¬ x45 = 0 → q_Call G d 0 0 X_Tk_takeSign [.ref 3, .int 41] σ43 (q_ri (fun x52 σ50 => (narrow .boolean (.int (if x52 = 0 then (0 : Int32) else (1 : Int32))) = .int (if x52 = 0 then (0 : Int32) else (1 : Int32)) ∧ Q (some (.int (if x52 = 0 then (0 : Int32) else (1 : Int32)))) σ50)))))))))))) ∧ (¬ x4 = (-1) → q_Call G d 0 0 X_La_addStep [.ref a0, .int (if (if (q_I σ2 3 1) = 2 then (1 : Int32) else (0 : Int32)) = 0 then ((-1) - x4) else (q_I σ7 3 6))] σ7 (q_rv (fun σ57 => q_Call G d 0 0 X_Tk_advance [.ref 3] σ57 (q_rv (fun σ60 => Q (some (.int 1)) σ60))))))))) ∧ (¬ p2 < 5 → q_Call G d 0 0 X_Tk_refuse [.ref 3, .int 5] σ7 (q_ri (fun x66 σ64 => (narrow .boolean (.int x66) = .int x66 ∧ Q (some (.int x66)) σ64)))))) ∧ ((if (q_I σ2 3 1) = 2 then (1 : Int32) else (0 : Int32)) = 0 → ((¬ x4 = (-1) → ((p2 < 5 → ((¬ (if (q_I σ2 3 1) = 2 then (1 : Int32) else (0 : Int32)) = 0 → q_Call G d 0 0 X_La_addStep [.ref a0, .int (if (if (q_I σ2 3 1) = 2 then (1 : Int32) else (0 : Int32)) = 0 then ((-1) - x4) else (q_I σ7 3 6))] σ7 (q_rv (fun σ76 => q_Call G d 0 0 X_Tk_advance [.ref 3] σ76 (q_rv (fun σ79 => Q (some (.int 1)) σ79))))) ∧ ((if (q_I σ2 3 1) = 2 then (1 : Int32) else (0 : Int32)) = 0 → ((x4 = (-1) → q_Call G d 0 0 X_Tk_advance [.ref 3] σ7 (q_rv (fun σ85 => ((¬ x9 = 0 → q_Call G d 0 0 X_La_readPart [.ref a0, .ref 3, .int p1, .int (p2 + 1)] σ85 (q_ri (fun x92 σ90 => ((¬ x92 = 0 → q_Call G d 0 0 X_La_addStep [.ref a0, .int (-4)] σ90 (q_rv (fun σ96 => Q (some (.int 1)) σ96))) ∧ (x92 = 0 → Q (some (.int 0)) σ90))))) ∧ (x9 = 0 → q_Call G d 0 0 X_La_readChain [.ref a0, .ref 3, .int p1, .int (p2 + 1)] σ85 (q_ri (fun x103 σ101 => ((x103 = 0 → Q (some (.int 0)) σ101) ∧ (¬ x103 = 0 → q_Call G d 0 0 X_Tk_takeSign [.ref 3, .int 41] σ101 (q_ri (fun x110 σ108 => (narrow .boolean (.int (if x110 = 0 then (0 : Int32) else (1 : Int32))) = .int (if x110 = 0 then (0 : Int32) else (1 : Int32)) ∧ Q (some (.int (if x110 = 0 then (0 : Int32) else (1 : Int32)))) σ108)))))))))))) ∧ (¬ x4 = (-1) → q_Call G d 0 0 X_La_addStep [.ref a0, .int (if (if (q_I σ2 3 1) = 2 then (1 : Int32) else (0 : Int32)) = 0 then ((-1) - x4) else (q_I σ7 3 6))] σ7 (q_rv (fun σ115 => q_Call G d 0 0 X_Tk_advance [.ref 3] σ115 (q_rv (fun σ118 => Q (some (.int 1)) σ118))))))))) ∧ (¬ p2 < 5 → q_Call G d 0 0 X_Tk_refuse [.ref 3, .int 5] σ7 (q_ri (fun x124 σ122 => (narrow .boolean (.int x124) = .int x124 ∧ Q (some (.int x124)) σ122)))))) ∧ (x4 = (-1) → ((¬ x9 = 0 → ((p2 < 5 → ((¬ (if (q_I σ2 3 1) = 2 then (1 : Int32) else (0 : Int32)) = 0 → q_Call G d 0 0 X_La_addStep [.ref a0, .int (if (if (q_I σ2 3 1) = 2 then (1 : Int32) else (0 : Int32)) = 0 then ((-1) - x4) else (q_I σ7 3 6))] σ7 (q_rv (fun σ134 => q_Call G d 0 0 X_Tk_advance [.ref 3] σ134 (q_rv (fun σ137 => Q (some (.int 1)) σ137))))) ∧ ((if (q_I σ2 3 1) = 2 then (1 : Int32) else (0 : Int32)) = 0 → ((x4 = (-1) → q_Call G d 0 0 X_Tk_advance [.ref 3] σ7 (q_rv (fun σ143 => ((¬ x9 = 0 → q_Call G d 0 0 X_La_readPart [.ref a0, .ref 3, .int p1, .int (p2 + 1)] σ143 (q_ri (fun x150 σ148 => ((¬ x150 = 0 → q_Call G d 0 0 X_La_addStep [.ref a0, .int (-4)] σ148 (q_rv (fun σ154 => Q (some (.int 1)) σ154))) ∧ (x150 = 0 → Q (some (.int 0)) σ148))))) ∧ (x9 = 0 → q_Call G d 0 0 X_La_readChain [.ref a0, .ref 3, .int p1, .int (p2 + 1)] σ143 (q_ri (fun x161 σ159 => ((x161 = 0 → Q (some (.int 0)) σ159) ∧ (¬ x161 = 0 → q_Call G d 0 0 X_Tk_takeSign [.ref 3, .int 41] σ159 (q_ri (fun x168 σ166 => (narrow .boolean (.int (if x168 = 0 then (0 : Int32) else (1 : Int32))) = .int (if x168 = 0 then (0 : Int32) else (1 : Int32)) ∧ Q (some (.int (if x168 = 0 then (0 : Int32) else (1 : Int32)))) σ166)))))))))))) ∧ (¬ x4 = (-1) → q_Call G d 0 0 X_La_addStep [.ref a0, .int (if (if (q_I σ2 3 1) = 2 then (1 : Int32) else (0 : Int32)) = 0 then ((-1) - x4) else (q_I σ7 3 6))] σ7 (q_rv (fun σ173 => q_Call G d 0 0 X_Tk_advance [.ref 3] σ173 (q_rv (fun σ176 => Q (some (.int 1)) σ176))))))))) ∧ (¬ p2 < 5 → q_Call G d 0 0 X_Tk_refuse [.ref 3, .int 5] σ7 (q_ri (fun x182 σ180 => (narrow .boolean (.int x182) = .int x182 ∧ Q (some (.int x182)) σ180)))))) ∧ (x9 = 0 → q_Call G d 0 0 X_Tk_isSign [.ref 3, .int 40] σ7 (q_ri (fun x187 σ185 => ((¬ x187 = 0 → ((p2 < 5 → ((¬ (if (q_I σ2 3 1) = 2 then (1 : Int32) else (0 : Int32)) = 0 → q_Call G d 0 0 X_La_addStep [.ref a0, .int (if (if (q_I σ2 3 1) = 2 then (1 : Int32) else (0 : Int32)) = 0 then ((-1) - x4) else (q_I σ185 3 6))] σ185 (q_rv (fun σ196 => q_Call G d 0 0 X_Tk_advance [.ref 3] σ196 (q_rv (fun σ199 => Q (some (.int 1)) σ199))))) ∧ ((if (q_I σ2 3 1) = 2 then (1 : Int32) else (0 : Int32)) = 0 → ((x4 = (-1) → q_Call G d 0 0 X_Tk_advance [.ref 3] σ185 (q_rv (fun σ205 => ((¬ x9 = 0 → q_Call G d 0 0 X_La_readPart [.ref a0, .ref 3, .int p1, .int (p2 + 1)] σ205 (q_ri (fun x212 σ210 => ((¬ x212 = 0 → q_Call G d 0 0 X_La_addStep [.ref a0, .int (-4)] σ210 (q_rv (fun σ216 => Q (some (.int 1)) σ216))) ∧ (x212 = 0 → Q (some (.int 0)) σ210))))) ∧ (x9 = 0 → q_Call G d 0 0 X_La_readChain [.ref a0, .ref 3, .int p1, .int (p2 + 1)] σ205 (q_ri (fun x223 σ221 => ((x223 = 0 → Q (some (.int 0)) σ221) ∧ (¬ x223 = 0 → q_Call G d 0 0 X_Tk_takeSign [.ref 3, .int 41] σ221 (q_ri (fun x230 σ228 => (narrow .boolean (.int (if x230 = 0 then (0 : Int32) else (1 : Int32))) = .int (if x230 = 0 then (0 : Int32) else (1 : Int32)) ∧ Q (some (.int (if x230 = 0 then (0 : Int32) else (1 : Int32)))) σ228)))))))))))) ∧ (¬ x4 = (-1) → q_Call G d 0 0 X_La_addStep [.ref a0, .int (if (if (q_I σ2 3 1) = 2 then (1 : Int32) else (0 : Int32)) = 0 then ((-1) - x4) else (q_I σ185 3 6))] σ185 (q_rv (fun σ235 => q_Call G d 0 0 X_Tk_advance [.ref 3] σ235 (q_rv (fun σ238 => Q (some (.int 1)) σ238))))))))) ∧ (¬ p2 < 5 → q_Call G d 0 0 X_Tk_refuse [.ref 3, .int 5] σ185 (q_ri (fun x244 σ242 => (narrow .boolean (.int x244) = .int x244 ∧ Q (some (.int x244)) σ242)))))) ∧ (x187 = 0 → q_Call G d 0 0 X_Tk_refuse [.ref 3, .int 1] σ185 (q_ri (fun x249 σ247 => (narrow .boolean (.int x249) = .int x249 ∧ Q (some (.int x249)) σ247)))))))))))))))))) : q_At G X_La_readPart (d + 1) 0 0 0 [some (.ref a0), some (.ref 3), some (.int p1), some (.int p2), none, none, none] [] σ Q := by
  refine q_aload_n o_La_readPart_0 rfl ?_
  refine q_iload_n o_La_readPart_1 rfl ?_
  refine q2_callSi _ (As := [.ref 3, .int p1]) (st := []) hs o_La_readPart_2 k_La_78 rfl (Nat.le_of_ble_eq_true rfl) h (fun x4 σ2 hs3 h1 => ?_)
  refine q2_ist (ls' := [some (.ref a0), some (.ref 3), some (.int p1), some (.int p2), some (.int x4), none, none]) o_La_readPart_5 (Nat.le_of_ble_eq_true rfl) rfl ?_
  refine q_aload_n o_La_readPart_7 rfl ?_
  refine q2_getI hs3 o_La_readPart_8 f_La_82 rfl ?_
  refine q_iconst (v := 2) o_La_readPart_11 (by decide) ?_
  have hJ : ∀ vJ : Int32, vJ = (if (q_I σ2 3 1) = 2 then (1 : Int32) else (0 : Int32)) → q_At G X_La_readPart (d + 1) 0 0 20 [some (.ref a0), some (.ref 3), some (.int p1), some (.int p2), some (.int x4), none, none] [.int vJ] σ2 Q := by
    intro vJ eJ
    rw [eJ]
    clear eJ vJ
    refine q2_ist (ls' := [some (.ref a0), some (.ref 3), some (.int p1), some (.int p2), some (.int x4), some (.int (if (q_I σ2 3 1) = 2 then (1 : Int32) else (0 : Int32))), none]) o_La_readPart_20 (Nat.le_of_ble_eq_true rfl) rfl ?_
    refine q_aload_n o_La_readPart_22 rfl ?_
    refine q_gets (w := .ref (1001 + 22)) o_La_readPart_23 s_La_85 (fun U H hh => (hh.1 22 (by decide)).1) ?_
    refine q2_callVi _ (a := 3) (As := [.ref (1001 + 22)]) (st := []) hs3 o_La_readPart_26 k_La_53 rfl rfl (Nat.le_of_ble_eq_true rfl) h1 (fun x9 σ7 hs8 h6 => ?_)
    refine q2_ist (ls' := [some (.ref a0), some (.ref 3), some (.int p1), some (.int p2), some (.int x4), some (.int (if (q_I σ2 3 1) = 2 then (1 : Int32) else (0 : Int32))), some (.int x9)]) o_La_readPart_29 (Nat.le_of_ble_eq_true rfl) rfl ?_
    refine q_iload o_La_readPart_31 rfl ?_
    refine q_if_ne o_La_readPart_33 (fun c10 => ?_) (fun c10 => ?_)
    · have h11 := h6.1 c10
      refine q_iload_n o_La_readPart_62 rfl ?_
      refine q_iconst (v := 5) o_La_readPart_63 (by decide) ?_
      refine q_icmp_lt o_La_readPart_64 (fun c12 => ?_) (fun c12 => ?_)
      · have h13 := h11.1 c12
        refine q_iload o_La_readPart_73 rfl ?_
        refine q_if_ne o_La_readPart_75 (fun c14 => ?_) (fun c14 => ?_)
        · have h15 := h13.1 c14
          refine q_aload_n o_La_readPart_84 rfl ?_
          refine q_iload o_La_readPart_85 rfl ?_
          have hJ : ∀ vJ : Int32, vJ = (if (if (q_I σ2 3 1) = 2 then (1 : Int32) else (0 : Int32)) = 0 then ((-1) - x4) else (q_I σ7 3 6)) → q_At G X_La_readPart (d + 1) 0 0 101 [some (.ref a0), some (.ref 3), some (.int p1), some (.int p2), some (.int x4), some (.int (if (q_I σ2 3 1) = 2 then (1 : Int32) else (0 : Int32))), some (.int x9)] [.int vJ, .ref a0] σ7 Q := by
            intro vJ eJ
            rw [eJ]
            clear eJ vJ
            refine q2_callVv _ (a := a0) (As := [.int (if (if (q_I σ2 3 1) = 2 then (1 : Int32) else (0 : Int32)) = 0 then ((-1) - x4) else (q_I σ7 3 6))]) (st := []) hs8 o_La_readPart_101 k_La_35 (kd_La_0 ha0) rfl (Nat.le_of_ble_eq_true rfl) h15 (fun σ18 hs19 h17 => ?_)
            refine q_aload_n o_La_readPart_104 rfl ?_
            refine q2_callVv _ (a := 3) (As := []) (st := []) hs19 o_La_readPart_105 k_La_62 rfl rfl (Nat.le_of_ble_eq_true rfl) h17 (fun σ21 hs22 h20 => ?_)
            refine q_iconst (v := 1) o_La_readPart_108 (by decide) ?_
            exact q_zre o_La_readPart_109 rfl rfl h20
          refine q_if_eq o_La_readPart_87 (fun c16 => ?_) (fun c16 => ?_)
          · refine q_iconst (v := (-1)) o_La_readPart_97 (by decide) ?_
            refine q_iload o_La_readPart_98 rfl ?_
            refine q_isub o_La_readPart_100 ?_
            exact hJ _ (Eq.symm (if_pos c16))
          · refine q_aload_n o_La_readPart_90 rfl ?_
            refine q2_getI hs8 o_La_readPart_91 f_La_92 rfl ?_
            refine q_goto o_La_readPart_94 ?_
            exact hJ _ (Eq.symm (if_neg c16))
        · have h23 := h13.2 c14
          refine q_iload o_La_readPart_78 rfl ?_
          refine q_iconst (v := (-1)) o_La_readPart_80 (by decide) ?_
          refine q_icmp_eq o_La_readPart_81 (fun c24 => ?_) (fun c24 => ?_)
          · have h25 := h23.1 c24
            refine q_aload_n o_La_readPart_110 rfl ?_
            refine q2_callVv _ (a := 3) (As := []) (st := []) hs8 o_La_readPart_111 k_La_62 rfl rfl (Nat.le_of_ble_eq_true rfl) h25 (fun σ27 hs28 h26 => ?_)
            refine q_iload o_La_readPart_114 rfl ?_
            refine q_if_ne o_La_readPart_116 (fun c29 => ?_) (fun c29 => ?_)
            · have h30 := h26.1 c29
              refine q_aload_n o_La_readPart_146 rfl ?_
              refine q_aload_n o_La_readPart_147 rfl ?_
              refine q_iload_n o_La_readPart_148 rfl ?_
              refine q_iload_n o_La_readPart_149 rfl ?_
              refine q_iconst (v := 1) o_La_readPart_150 (by decide) ?_
              refine q_iadd o_La_readPart_151 ?_
              refine q2_callVi _ (a := a0) (As := [.ref 3, .int p1, .int (p2 + 1)]) (st := []) hs28 o_La_readPart_152 k_La_75 (kd_La_0 ha0) rfl (Nat.le_of_ble_eq_true rfl) h30 (fun x34 σ32 hs33 h31 => ?_)
              refine q_if_ne o_La_readPart_155 (fun c35 => ?_) (fun c35 => ?_)
              · have h36 := h31.1 c35
                refine q_aload_n o_La_readPart_160 rfl ?_
                refine q_bipush (v := (-4)) o_La_readPart_161 (by decide) ?_
                refine q2_callVv _ (a := a0) (As := [.int (-4)]) (st := []) hs33 o_La_readPart_163 k_La_35 (kd_La_0 ha0) rfl (Nat.le_of_ble_eq_true rfl) h36 (fun σ38 hs39 h37 => ?_)
                refine q_iconst (v := 1) o_La_readPart_166 (by decide) ?_
                exact q_zre o_La_readPart_167 rfl rfl h37
              · have h40 := h31.2 c35
                refine q_iconst (v := 0) o_La_readPart_158 (by decide) ?_
                exact q_zre o_La_readPart_159 rfl rfl h40
            · have h41 := h26.2 c29
              refine q_aload_n o_La_readPart_119 rfl ?_
              refine q_aload_n o_La_readPart_120 rfl ?_
              refine q_iload_n o_La_readPart_121 rfl ?_
              refine q_iload_n o_La_readPart_122 rfl ?_
              refine q_iconst (v := 1) o_La_readPart_123 (by decide) ?_
              refine q_iadd o_La_readPart_124 ?_
              refine q2_callVi _ (a := a0) (As := [.ref 3, .int p1, .int (p2 + 1)]) (st := []) hs28 o_La_readPart_125 k_La_95 (kd_La_0 ha0) rfl (Nat.le_of_ble_eq_true rfl) h41 (fun x45 σ43 hs44 h42 => ?_)
              refine q_if_eq o_La_readPart_128 (fun c46 => ?_) (fun c46 => ?_)
              · have h47 := h42.1 c46
                refine q_iconst (v := 0) o_La_readPart_144 (by decide) ?_
                exact q_zre o_La_readPart_145 rfl rfl h47
              · have h48 := h42.2 c46
                refine q_aload_n o_La_readPart_131 rfl ?_
                refine q_bipush (v := 41) o_La_readPart_132 (by decide) ?_
                refine q2_callVi _ (a := 3) (As := [.int 41]) (st := []) hs44 o_La_readPart_134 k_La_98 rfl rfl (Nat.le_of_ble_eq_true rfl) h48 (fun x52 σ50 hs51 h49 => ?_)
                have hJ : ∀ vJ : Int32, vJ = (if x52 = 0 then (0 : Int32) else (1 : Int32)) → q_At G X_La_readPart (d + 1) 0 0 145 [some (.ref a0), some (.ref 3), some (.int p1), some (.int p2), some (.int x4), some (.int (if (q_I σ2 3 1) = 2 then (1 : Int32) else (0 : Int32))), some (.int x9)] [.int vJ] σ50 Q := by
                  intro vJ eJ
                  rw [eJ]
                  clear eJ vJ
                  exact q_zre o_La_readPart_145 rfl h49.1 h49.2
                refine q_if_eq o_La_readPart_137 (fun c53 => ?_) (fun c53 => ?_)
                · refine q_iconst (v := 0) o_La_readPart_144 (by decide) ?_
                  exact hJ _ (Eq.symm (if_pos c53))
                · refine q_iconst (v := 1) o_La_readPart_140 (by decide) ?_
                  refine q_goto o_La_readPart_141 ?_
                  exact hJ _ (Eq.symm (if_neg c53))
          · have h54 := h23.2 c24
            refine q_aload_n o_La_readPart_84 rfl ?_
            refine q_iload o_La_readPart_85 rfl ?_
            have hJ : ∀ vJ : Int32, vJ = (if (if (q_I σ2 3 1) = 2 then (1 : Int32) else (0 : Int32)) = 0 then ((-1) - x4) else (q_I σ7 3 6)) → q_At G X_La_readPart (d + 1) 0 0 101 [some (.ref a0), some (.ref 3), some (.int p1), some (.int p2), some (.int x4), some (.int (if (q_I σ2 3 1) = 2 then (1 : Int32) else (0 : Int32))), some (.int x9)] [.int vJ, .ref a0] σ7 Q := by
              intro vJ eJ
              rw [eJ]
              clear eJ vJ
              refine q2_callVv _ (a := a0) (As := [.int (if (if (q_I σ2 3 1) = 2 then (1 : Int32) else (0 : Int32)) = 0 then ((-1) - x4) else (q_I σ7 3 6))]) (st := []) hs8 o_La_readPart_101 k_La_35 (kd_La_0 ha0) rfl (Nat.le_of_ble_eq_true rfl) h54 (fun σ57 hs58 h56 => ?_)
              refine q_aload_n o_La_readPart_104 rfl ?_
              refine q2_callVv _ (a := 3) (As := []) (st := []) hs58 o_La_readPart_105 k_La_62 rfl rfl (Nat.le_of_ble_eq_true rfl) h56 (fun σ60 hs61 h59 => ?_)
              refine q_iconst (v := 1) o_La_readPart_108 (by decide) ?_
              exact q_zre o_La_readPart_109 rfl rfl h59
            refine q_if_eq o_La_readPart_87 (fun c55 => ?_) (fun c55 => ?_)
            · refine q_iconst (v := (-1)) o_La_readPart_97 (by decide) ?_
              refine q_iload o_La_readPart_98 rfl ?_
              refine q_isub o_La_readPart_100 ?_
              exact hJ _ (Eq.symm (if_pos c55))
            · refine q_aload_n o_La_readPart_90 rfl ?_
              refine q2_getI hs8 o_La_readPart_91 f_La_92 rfl ?_
              refine q_goto o_La_readPart_94 ?_
              exact hJ _ (Eq.symm (if_neg c55))
      · have h62 := h11.2 c12
        refine q_aload_n o_La_readPart_67 rfl ?_
        refine q_iconst (v := 5) o_La_readPart_68 (by decide) ?_
        refine q2_callVi _ (a := 3) (As := [.int 5]) (st := []) hs8 o_La_readPart_69 k_La_88 rfl rfl (Nat.le_of_ble_eq_true rfl) h62 (fun x66 σ64 hs65 h63 => ?_)
        exact q_zre o_La_readPart_72 rfl h63.1 h63.2
    · have h67 := h6.2 c10
      refine q_iload o_La_readPart_36 rfl ?_
      refine q_iconst (v := (-1)) o_La_readPart_38 (by decide) ?_
      refine q_icmp_ne o_La_readPart_39 (fun c68 => ?_) (fun c68 => ?_)
      · have h69 := h67.1 c68
        refine q_iload_n o_La_readPart_62 rfl ?_
        refine q_iconst (v := 5) o_La_readPart_63 (by decide) ?_
        refine q_icmp_lt o_La_readPart_64 (fun c70 => ?_) (fun c70 => ?_)
        · have h71 := h69.1 c70
          refine q_iload o_La_readPart_73 rfl ?_
          refine q_if_ne o_La_readPart_75 (fun c72 => ?_) (fun c72 => ?_)
          · have h73 := h71.1 c72
            refine q_aload_n o_La_readPart_84 rfl ?_
            refine q_iload o_La_readPart_85 rfl ?_
            have hJ : ∀ vJ : Int32, vJ = (if (if (q_I σ2 3 1) = 2 then (1 : Int32) else (0 : Int32)) = 0 then ((-1) - x4) else (q_I σ7 3 6)) → q_At G X_La_readPart (d + 1) 0 0 101 [some (.ref a0), some (.ref 3), some (.int p1), some (.int p2), some (.int x4), some (.int (if (q_I σ2 3 1) = 2 then (1 : Int32) else (0 : Int32))), some (.int x9)] [.int vJ, .ref a0] σ7 Q := by
              intro vJ eJ
              rw [eJ]
              clear eJ vJ
              refine q2_callVv _ (a := a0) (As := [.int (if (if (q_I σ2 3 1) = 2 then (1 : Int32) else (0 : Int32)) = 0 then ((-1) - x4) else (q_I σ7 3 6))]) (st := []) hs8 o_La_readPart_101 k_La_35 (kd_La_0 ha0) rfl (Nat.le_of_ble_eq_true rfl) h73 (fun σ76 hs77 h75 => ?_)
              refine q_aload_n o_La_readPart_104 rfl ?_
              refine q2_callVv _ (a := 3) (As := []) (st := []) hs77 o_La_readPart_105 k_La_62 rfl rfl (Nat.le_of_ble_eq_true rfl) h75 (fun σ79 hs80 h78 => ?_)
              refine q_iconst (v := 1) o_La_readPart_108 (by decide) ?_
              exact q_zre o_La_readPart_109 rfl rfl h78
            refine q_if_eq o_La_readPart_87 (fun c74 => ?_) (fun c74 => ?_)
            · refine q_iconst (v := (-1)) o_La_readPart_97 (by decide) ?_
              refine q_iload o_La_readPart_98 rfl ?_
              refine q_isub o_La_readPart_100 ?_
              exact hJ _ (Eq.symm (if_pos c74))
            · refine q_aload_n o_La_readPart_90 rfl ?_
              refine q2_getI hs8 o_La_readPart_91 f_La_92 rfl ?_
              refine q_goto o_La_readPart_94 ?_
              exact hJ _ (Eq.symm (if_neg c74))
          · have h81 := h71.2 c72
            refine q_iload o_La_readPart_78 rfl ?_
            refine q_iconst (v := (-1)) o_La_readPart_80 (by decide) ?_
            refine q_icmp_eq o_La_readPart_81 (fun c82 => ?_) (fun c82 => ?_)
            · have h83 := h81.1 c82
              refine q_aload_n o_La_readPart_110 rfl ?_
              refine q2_callVv _ (a := 3) (As := []) (st := []) hs8 o_La_readPart_111 k_La_62 rfl rfl (Nat.le_of_ble_eq_true rfl) h83 (fun σ85 hs86 h84 => ?_)
              refine q_iload o_La_readPart_114 rfl ?_
              refine q_if_ne o_La_readPart_116 (fun c87 => ?_) (fun c87 => ?_)
              · have h88 := h84.1 c87
                refine q_aload_n o_La_readPart_146 rfl ?_
                refine q_aload_n o_La_readPart_147 rfl ?_
                refine q_iload_n o_La_readPart_148 rfl ?_
                refine q_iload_n o_La_readPart_149 rfl ?_
                refine q_iconst (v := 1) o_La_readPart_150 (by decide) ?_
                refine q_iadd o_La_readPart_151 ?_
                refine q2_callVi _ (a := a0) (As := [.ref 3, .int p1, .int (p2 + 1)]) (st := []) hs86 o_La_readPart_152 k_La_75 (kd_La_0 ha0) rfl (Nat.le_of_ble_eq_true rfl) h88 (fun x92 σ90 hs91 h89 => ?_)
                refine q_if_ne o_La_readPart_155 (fun c93 => ?_) (fun c93 => ?_)
                · have h94 := h89.1 c93
                  refine q_aload_n o_La_readPart_160 rfl ?_
                  refine q_bipush (v := (-4)) o_La_readPart_161 (by decide) ?_
                  refine q2_callVv _ (a := a0) (As := [.int (-4)]) (st := []) hs91 o_La_readPart_163 k_La_35 (kd_La_0 ha0) rfl (Nat.le_of_ble_eq_true rfl) h94 (fun σ96 hs97 h95 => ?_)
                  refine q_iconst (v := 1) o_La_readPart_166 (by decide) ?_
                  exact q_zre o_La_readPart_167 rfl rfl h95
                · have h98 := h89.2 c93
                  refine q_iconst (v := 0) o_La_readPart_158 (by decide) ?_
                  exact q_zre o_La_readPart_159 rfl rfl h98
              · have h99 := h84.2 c87
                refine q_aload_n o_La_readPart_119 rfl ?_
                refine q_aload_n o_La_readPart_120 rfl ?_
                refine q_iload_n o_La_readPart_121 rfl ?_
                refine q_iload_n o_La_readPart_122 rfl ?_
                refine q_iconst (v := 1) o_La_readPart_123 (by decide) ?_
                refine q_iadd o_La_readPart_124 ?_
                refine q2_callVi _ (a := a0) (As := [.ref 3, .int p1, .int (p2 + 1)]) (st := []) hs86 o_La_readPart_125 k_La_95 (kd_La_0 ha0) rfl (Nat.le_of_ble_eq_true rfl) h99 (fun x103 σ101 hs102 h100 => ?_)
                refine q_if_eq o_La_readPart_128 (fun c104 => ?_) (fun c104 => ?_)
                · have h105 := h100.1 c104
                  refine q_iconst (v := 0) o_La_readPart_144 (by decide) ?_
                  exact q_zre o_La_readPart_145 rfl rfl h105
                · have h106 := h100.2 c104
                  refine q_aload_n o_La_readPart_131 rfl ?_
                  refine q_bipush (v := 41) o_La_readPart_132 (by decide) ?_
                  refine q2_callVi _ (a := 3) (As := [.int 41]) (st := []) hs102 o_La_readPart_134 k_La_98 rfl rfl (Nat.le_of_ble_eq_true rfl) h106 (fun x110 σ108 hs109 h107 => ?_)
                  have hJ : ∀ vJ : Int32, vJ = (if x110 = 0 then (0 : Int32) else (1 : Int32)) → q_At G X_La_readPart (d + 1) 0 0 145 [some (.ref a0), some (.ref 3), some (.int p1), some (.int p2), some (.int x4), some (.int (if (q_I σ2 3 1) = 2 then (1 : Int32) else (0 : Int32))), some (.int x9)] [.int vJ] σ108 Q := by
                    intro vJ eJ
                    rw [eJ]
                    clear eJ vJ
                    exact q_zre o_La_readPart_145 rfl h107.1 h107.2
                  refine q_if_eq o_La_readPart_137 (fun c111 => ?_) (fun c111 => ?_)
                  · refine q_iconst (v := 0) o_La_readPart_144 (by decide) ?_
                    exact hJ _ (Eq.symm (if_pos c111))
                  · refine q_iconst (v := 1) o_La_readPart_140 (by decide) ?_
                    refine q_goto o_La_readPart_141 ?_
                    exact hJ _ (Eq.symm (if_neg c111))
            · have h112 := h81.2 c82
              refine q_aload_n o_La_readPart_84 rfl ?_
              refine q_iload o_La_readPart_85 rfl ?_
              have hJ : ∀ vJ : Int32, vJ = (if (if (q_I σ2 3 1) = 2 then (1 : Int32) else (0 : Int32)) = 0 then ((-1) - x4) else (q_I σ7 3 6)) → q_At G X_La_readPart (d + 1) 0 0 101 [some (.ref a0), some (.ref 3), some (.int p1), some (.int p2), some (.int x4), some (.int (if (q_I σ2 3 1) = 2 then (1 : Int32) else (0 : Int32))), some (.int x9)] [.int vJ, .ref a0] σ7 Q := by
                intro vJ eJ
                rw [eJ]
                clear eJ vJ
                refine q2_callVv _ (a := a0) (As := [.int (if (if (q_I σ2 3 1) = 2 then (1 : Int32) else (0 : Int32)) = 0 then ((-1) - x4) else (q_I σ7 3 6))]) (st := []) hs8 o_La_readPart_101 k_La_35 (kd_La_0 ha0) rfl (Nat.le_of_ble_eq_true rfl) h112 (fun σ115 hs116 h114 => ?_)
                refine q_aload_n o_La_readPart_104 rfl ?_
                refine q2_callVv _ (a := 3) (As := []) (st := []) hs116 o_La_readPart_105 k_La_62 rfl rfl (Nat.le_of_ble_eq_true rfl) h114 (fun σ118 hs119 h117 => ?_)
                refine q_iconst (v := 1) o_La_readPart_108 (by decide) ?_
                exact q_zre o_La_readPart_109 rfl rfl h117
              refine q_if_eq o_La_readPart_87 (fun c113 => ?_) (fun c113 => ?_)
              · refine q_iconst (v := (-1)) o_La_readPart_97 (by decide) ?_
                refine q_iload o_La_readPart_98 rfl ?_
                refine q_isub o_La_readPart_100 ?_
                exact hJ _ (Eq.symm (if_pos c113))
              · refine q_aload_n o_La_readPart_90 rfl ?_
                refine q2_getI hs8 o_La_readPart_91 f_La_92 rfl ?_
                refine q_goto o_La_readPart_94 ?_
                exact hJ _ (Eq.symm (if_neg c113))
        · have h120 := h69.2 c70
          refine q_aload_n o_La_readPart_67 rfl ?_
          refine q_iconst (v := 5) o_La_readPart_68 (by decide) ?_
          refine q2_callVi _ (a := 3) (As := [.int 5]) (st := []) hs8 o_La_readPart_69 k_La_88 rfl rfl (Nat.le_of_ble_eq_true rfl) h120 (fun x124 σ122 hs123 h121 => ?_)
          exact q_zre o_La_readPart_72 rfl h121.1 h121.2
      · have h125 := h67.2 c68
        refine q_iload o_La_readPart_42 rfl ?_
        refine q_if_ne o_La_readPart_44 (fun c126 => ?_) (fun c126 => ?_)
        · have h127 := h125.1 c126
          refine q_iload_n o_La_readPart_62 rfl ?_
          refine q_iconst (v := 5) o_La_readPart_63 (by decide) ?_
          refine q_icmp_lt o_La_readPart_64 (fun c128 => ?_) (fun c128 => ?_)
          · have h129 := h127.1 c128
            refine q_iload o_La_readPart_73 rfl ?_
            refine q_if_ne o_La_readPart_75 (fun c130 => ?_) (fun c130 => ?_)
            · have h131 := h129.1 c130
              refine q_aload_n o_La_readPart_84 rfl ?_
              refine q_iload o_La_readPart_85 rfl ?_
              have hJ : ∀ vJ : Int32, vJ = (if (if (q_I σ2 3 1) = 2 then (1 : Int32) else (0 : Int32)) = 0 then ((-1) - x4) else (q_I σ7 3 6)) → q_At G X_La_readPart (d + 1) 0 0 101 [some (.ref a0), some (.ref 3), some (.int p1), some (.int p2), some (.int x4), some (.int (if (q_I σ2 3 1) = 2 then (1 : Int32) else (0 : Int32))), some (.int x9)] [.int vJ, .ref a0] σ7 Q := by
                intro vJ eJ
                rw [eJ]
                clear eJ vJ
                refine q2_callVv _ (a := a0) (As := [.int (if (if (q_I σ2 3 1) = 2 then (1 : Int32) else (0 : Int32)) = 0 then ((-1) - x4) else (q_I σ7 3 6))]) (st := []) hs8 o_La_readPart_101 k_La_35 (kd_La_0 ha0) rfl (Nat.le_of_ble_eq_true rfl) h131 (fun σ134 hs135 h133 => ?_)
                refine q_aload_n o_La_readPart_104 rfl ?_
                refine q2_callVv _ (a := 3) (As := []) (st := []) hs135 o_La_readPart_105 k_La_62 rfl rfl (Nat.le_of_ble_eq_true rfl) h133 (fun σ137 hs138 h136 => ?_)
                refine q_iconst (v := 1) o_La_readPart_108 (by decide) ?_
                exact q_zre o_La_readPart_109 rfl rfl h136
              refine q_if_eq o_La_readPart_87 (fun c132 => ?_) (fun c132 => ?_)
              · refine q_iconst (v := (-1)) o_La_readPart_97 (by decide) ?_
                refine q_iload o_La_readPart_98 rfl ?_
                refine q_isub o_La_readPart_100 ?_
                exact hJ _ (Eq.symm (if_pos c132))
              · refine q_aload_n o_La_readPart_90 rfl ?_
                refine q2_getI hs8 o_La_readPart_91 f_La_92 rfl ?_
                refine q_goto o_La_readPart_94 ?_
                exact hJ _ (Eq.symm (if_neg c132))
            · have h139 := h129.2 c130
              refine q_iload o_La_readPart_78 rfl ?_
              refine q_iconst (v := (-1)) o_La_readPart_80 (by decide) ?_
              refine q_icmp_eq o_La_readPart_81 (fun c140 => ?_) (fun c140 => ?_)
              · have h141 := h139.1 c140
                refine q_aload_n o_La_readPart_110 rfl ?_
                refine q2_callVv _ (a := 3) (As := []) (st := []) hs8 o_La_readPart_111 k_La_62 rfl rfl (Nat.le_of_ble_eq_true rfl) h141 (fun σ143 hs144 h142 => ?_)
                refine q_iload o_La_readPart_114 rfl ?_
                refine q_if_ne o_La_readPart_116 (fun c145 => ?_) (fun c145 => ?_)
                · have h146 := h142.1 c145
                  refine q_aload_n o_La_readPart_146 rfl ?_
                  refine q_aload_n o_La_readPart_147 rfl ?_
                  refine q_iload_n o_La_readPart_148 rfl ?_
                  refine q_iload_n o_La_readPart_149 rfl ?_
                  refine q_iconst (v := 1) o_La_readPart_150 (by decide) ?_
                  refine q_iadd o_La_readPart_151 ?_
                  refine q2_callVi _ (a := a0) (As := [.ref 3, .int p1, .int (p2 + 1)]) (st := []) hs144 o_La_readPart_152 k_La_75 (kd_La_0 ha0) rfl (Nat.le_of_ble_eq_true rfl) h146 (fun x150 σ148 hs149 h147 => ?_)
                  refine q_if_ne o_La_readPart_155 (fun c151 => ?_) (fun c151 => ?_)
                  · have h152 := h147.1 c151
                    refine q_aload_n o_La_readPart_160 rfl ?_
                    refine q_bipush (v := (-4)) o_La_readPart_161 (by decide) ?_
                    refine q2_callVv _ (a := a0) (As := [.int (-4)]) (st := []) hs149 o_La_readPart_163 k_La_35 (kd_La_0 ha0) rfl (Nat.le_of_ble_eq_true rfl) h152 (fun σ154 hs155 h153 => ?_)
                    refine q_iconst (v := 1) o_La_readPart_166 (by decide) ?_
                    exact q_zre o_La_readPart_167 rfl rfl h153
                  · have h156 := h147.2 c151
                    refine q_iconst (v := 0) o_La_readPart_158 (by decide) ?_
                    exact q_zre o_La_readPart_159 rfl rfl h156
                · have h157 := h142.2 c145
                  refine q_aload_n o_La_readPart_119 rfl ?_
                  refine q_aload_n o_La_readPart_120 rfl ?_
                  refine q_iload_n o_La_readPart_121 rfl ?_
                  refine q_iload_n o_La_readPart_122 rfl ?_
                  refine q_iconst (v := 1) o_La_readPart_123 (by decide) ?_
                  refine q_iadd o_La_readPart_124 ?_
                  refine q2_callVi _ (a := a0) (As := [.ref 3, .int p1, .int (p2 + 1)]) (st := []) hs144 o_La_readPart_125 k_La_95 (kd_La_0 ha0) rfl (Nat.le_of_ble_eq_true rfl) h157 (fun x161 σ159 hs160 h158 => ?_)
                  refine q_if_eq o_La_readPart_128 (fun c162 => ?_) (fun c162 => ?_)
                  · have h163 := h158.1 c162
                    refine q_iconst (v := 0) o_La_readPart_144 (by decide) ?_
                    exact q_zre o_La_readPart_145 rfl rfl h163
                  · have h164 := h158.2 c162
                    refine q_aload_n o_La_readPart_131 rfl ?_
                    refine q_bipush (v := 41) o_La_readPart_132 (by decide) ?_
                    refine q2_callVi _ (a := 3) (As := [.int 41]) (st := []) hs160 o_La_readPart_134 k_La_98 rfl rfl (Nat.le_of_ble_eq_true rfl) h164 (fun x168 σ166 hs167 h165 => ?_)
                    have hJ : ∀ vJ : Int32, vJ = (if x168 = 0 then (0 : Int32) else (1 : Int32)) → q_At G X_La_readPart (d + 1) 0 0 145 [some (.ref a0), some (.ref 3), some (.int p1), some (.int p2), some (.int x4), some (.int (if (q_I σ2 3 1) = 2 then (1 : Int32) else (0 : Int32))), some (.int x9)] [.int vJ] σ166 Q := by
                      intro vJ eJ
                      rw [eJ]
                      clear eJ vJ
                      exact q_zre o_La_readPart_145 rfl h165.1 h165.2
                    refine q_if_eq o_La_readPart_137 (fun c169 => ?_) (fun c169 => ?_)
                    · refine q_iconst (v := 0) o_La_readPart_144 (by decide) ?_
                      exact hJ _ (Eq.symm (if_pos c169))
                    · refine q_iconst (v := 1) o_La_readPart_140 (by decide) ?_
                      refine q_goto o_La_readPart_141 ?_
                      exact hJ _ (Eq.symm (if_neg c169))
              · have h170 := h139.2 c140
                refine q_aload_n o_La_readPart_84 rfl ?_
                refine q_iload o_La_readPart_85 rfl ?_
                have hJ : ∀ vJ : Int32, vJ = (if (if (q_I σ2 3 1) = 2 then (1 : Int32) else (0 : Int32)) = 0 then ((-1) - x4) else (q_I σ7 3 6)) → q_At G X_La_readPart (d + 1) 0 0 101 [some (.ref a0), some (.ref 3), some (.int p1), some (.int p2), some (.int x4), some (.int (if (q_I σ2 3 1) = 2 then (1 : Int32) else (0 : Int32))), some (.int x9)] [.int vJ, .ref a0] σ7 Q := by
                  intro vJ eJ
                  rw [eJ]
                  clear eJ vJ
                  refine q2_callVv _ (a := a0) (As := [.int (if (if (q_I σ2 3 1) = 2 then (1 : Int32) else (0 : Int32)) = 0 then ((-1) - x4) else (q_I σ7 3 6))]) (st := []) hs8 o_La_readPart_101 k_La_35 (kd_La_0 ha0) rfl (Nat.le_of_ble_eq_true rfl) h170 (fun σ173 hs174 h172 => ?_)
                  refine q_aload_n o_La_readPart_104 rfl ?_
                  refine q2_callVv _ (a := 3) (As := []) (st := []) hs174 o_La_readPart_105 k_La_62 rfl rfl (Nat.le_of_ble_eq_true rfl) h172 (fun σ176 hs177 h175 => ?_)
                  refine q_iconst (v := 1) o_La_readPart_108 (by decide) ?_
                  exact q_zre o_La_readPart_109 rfl rfl h175
                refine q_if_eq o_La_readPart_87 (fun c171 => ?_) (fun c171 => ?_)
                · refine q_iconst (v := (-1)) o_La_readPart_97 (by decide) ?_
                  refine q_iload o_La_readPart_98 rfl ?_
                  refine q_isub o_La_readPart_100 ?_
                  exact hJ _ (Eq.symm (if_pos c171))
                · refine q_aload_n o_La_readPart_90 rfl ?_
                  refine q2_getI hs8 o_La_readPart_91 f_La_92 rfl ?_
                  refine q_goto o_La_readPart_94 ?_
                  exact hJ _ (Eq.symm (if_neg c171))
          · have h178 := h127.2 c128
            refine q_aload_n o_La_readPart_67 rfl ?_
            refine q_iconst (v := 5) o_La_readPart_68 (by decide) ?_
            refine q2_callVi _ (a := 3) (As := [.int 5]) (st := []) hs8 o_La_readPart_69 k_La_88 rfl rfl (Nat.le_of_ble_eq_true rfl) h178 (fun x182 σ180 hs181 h179 => ?_)
            exact q_zre o_La_readPart_72 rfl h179.1 h179.2
        · have h183 := h125.2 c126
          refine q_aload_n o_La_readPart_47 rfl ?_
          refine q_bipush (v := 40) o_La_readPart_48 (by decide) ?_
          refine q2_callVi _ (a := 3) (As := [.int 40]) (st := []) hs8 o_La_readPart_50 k_La_68 rfl rfl (Nat.le_of_ble_eq_true rfl) h183 (fun x187 σ185 hs186 h184 => ?_)
          refine q_if_ne o_La_readPart_53 (fun c188 => ?_) (fun c188 => ?_)
          · have h189 := h184.1 c188
            refine q_iload_n o_La_readPart_62 rfl ?_
            refine q_iconst (v := 5) o_La_readPart_63 (by decide) ?_
            refine q_icmp_lt o_La_readPart_64 (fun c190 => ?_) (fun c190 => ?_)
            · have h191 := h189.1 c190
              refine q_iload o_La_readPart_73 rfl ?_
              refine q_if_ne o_La_readPart_75 (fun c192 => ?_) (fun c192 => ?_)
              · have h193 := h191.1 c192
                refine q_aload_n o_La_readPart_84 rfl ?_
                refine q_iload o_La_readPart_85 rfl ?_
                have hJ : ∀ vJ : Int32, vJ = (if (if (q_I σ2 3 1) = 2 then (1 : Int32) else (0 : Int32)) = 0 then ((-1) - x4) else (q_I σ185 3 6)) → q_At G X_La_readPart (d + 1) 0 0 101 [some (.ref a0), some (.ref 3), some (.int p1), some (.int p2), some (.int x4), some (.int (if (q_I σ2 3 1) = 2 then (1 : Int32) else (0 : Int32))), some (.int x9)] [.int vJ, .ref a0] σ185 Q := by
                  intro vJ eJ
                  rw [eJ]
                  clear eJ vJ
                  refine q2_callVv _ (a := a0) (As := [.int (if (if (q_I σ2 3 1) = 2 then (1 : Int32) else (0 : Int32)) = 0 then ((-1) - x4) else (q_I σ185 3 6))]) (st := []) hs186 o_La_readPart_101 k_La_35 (kd_La_0 ha0) rfl (Nat.le_of_ble_eq_true rfl) h193 (fun σ196 hs197 h195 => ?_)
                  refine q_aload_n o_La_readPart_104 rfl ?_
                  refine q2_callVv _ (a := 3) (As := []) (st := []) hs197 o_La_readPart_105 k_La_62 rfl rfl (Nat.le_of_ble_eq_true rfl) h195 (fun σ199 hs200 h198 => ?_)
                  refine q_iconst (v := 1) o_La_readPart_108 (by decide) ?_
                  exact q_zre o_La_readPart_109 rfl rfl h198
                refine q_if_eq o_La_readPart_87 (fun c194 => ?_) (fun c194 => ?_)
                · refine q_iconst (v := (-1)) o_La_readPart_97 (by decide) ?_
                  refine q_iload o_La_readPart_98 rfl ?_
                  refine q_isub o_La_readPart_100 ?_
                  exact hJ _ (Eq.symm (if_pos c194))
                · refine q_aload_n o_La_readPart_90 rfl ?_
                  refine q2_getI hs186 o_La_readPart_91 f_La_92 rfl ?_
                  refine q_goto o_La_readPart_94 ?_
                  exact hJ _ (Eq.symm (if_neg c194))
              · have h201 := h191.2 c192
                refine q_iload o_La_readPart_78 rfl ?_
                refine q_iconst (v := (-1)) o_La_readPart_80 (by decide) ?_
                refine q_icmp_eq o_La_readPart_81 (fun c202 => ?_) (fun c202 => ?_)
                · have h203 := h201.1 c202
                  refine q_aload_n o_La_readPart_110 rfl ?_
                  refine q2_callVv _ (a := 3) (As := []) (st := []) hs186 o_La_readPart_111 k_La_62 rfl rfl (Nat.le_of_ble_eq_true rfl) h203 (fun σ205 hs206 h204 => ?_)
                  refine q_iload o_La_readPart_114 rfl ?_
                  refine q_if_ne o_La_readPart_116 (fun c207 => ?_) (fun c207 => ?_)
                  · have h208 := h204.1 c207
                    refine q_aload_n o_La_readPart_146 rfl ?_
                    refine q_aload_n o_La_readPart_147 rfl ?_
                    refine q_iload_n o_La_readPart_148 rfl ?_
                    refine q_iload_n o_La_readPart_149 rfl ?_
                    refine q_iconst (v := 1) o_La_readPart_150 (by decide) ?_
                    refine q_iadd o_La_readPart_151 ?_
                    refine q2_callVi _ (a := a0) (As := [.ref 3, .int p1, .int (p2 + 1)]) (st := []) hs206 o_La_readPart_152 k_La_75 (kd_La_0 ha0) rfl (Nat.le_of_ble_eq_true rfl) h208 (fun x212 σ210 hs211 h209 => ?_)
                    refine q_if_ne o_La_readPart_155 (fun c213 => ?_) (fun c213 => ?_)
                    · have h214 := h209.1 c213
                      refine q_aload_n o_La_readPart_160 rfl ?_
                      refine q_bipush (v := (-4)) o_La_readPart_161 (by decide) ?_
                      refine q2_callVv _ (a := a0) (As := [.int (-4)]) (st := []) hs211 o_La_readPart_163 k_La_35 (kd_La_0 ha0) rfl (Nat.le_of_ble_eq_true rfl) h214 (fun σ216 hs217 h215 => ?_)
                      refine q_iconst (v := 1) o_La_readPart_166 (by decide) ?_
                      exact q_zre o_La_readPart_167 rfl rfl h215
                    · have h218 := h209.2 c213
                      refine q_iconst (v := 0) o_La_readPart_158 (by decide) ?_
                      exact q_zre o_La_readPart_159 rfl rfl h218
                  · have h219 := h204.2 c207
                    refine q_aload_n o_La_readPart_119 rfl ?_
                    refine q_aload_n o_La_readPart_120 rfl ?_
                    refine q_iload_n o_La_readPart_121 rfl ?_
                    refine q_iload_n o_La_readPart_122 rfl ?_
                    refine q_iconst (v := 1) o_La_readPart_123 (by decide) ?_
                    refine q_iadd o_La_readPart_124 ?_
                    refine q2_callVi _ (a := a0) (As := [.ref 3, .int p1, .int (p2 + 1)]) (st := []) hs206 o_La_readPart_125 k_La_95 (kd_La_0 ha0) rfl (Nat.le_of_ble_eq_true rfl) h219 (fun x223 σ221 hs222 h220 => ?_)
                    refine q_if_eq o_La_readPart_128 (fun c224 => ?_) (fun c224 => ?_)
                    · have h225 := h220.1 c224
                      refine q_iconst (v := 0) o_La_readPart_144 (by decide) ?_
                      exact q_zre o_La_readPart_145 rfl rfl h225
                    · have h226 := h220.2 c224
                      refine q_aload_n o_La_readPart_131 rfl ?_
                      refine q_bipush (v := 41) o_La_readPart_132 (by decide) ?_
                      refine q2_callVi _ (a := 3) (As := [.int 41]) (st := []) hs222 o_La_readPart_134 k_La_98 rfl rfl (Nat.le_of_ble_eq_true rfl) h226 (fun x230 σ228 hs229 h227 => ?_)
                      have hJ : ∀ vJ : Int32, vJ = (if x230 = 0 then (0 : Int32) else (1 : Int32)) → q_At G X_La_readPart (d + 1) 0 0 145 [some (.ref a0), some (.ref 3), some (.int p1), some (.int p2), some (.int x4), some (.int (if (q_I σ2 3 1) = 2 then (1 : Int32) else (0 : Int32))), some (.int x9)] [.int vJ] σ228 Q := by
                        intro vJ eJ
                        rw [eJ]
                        clear eJ vJ
                        exact q_zre o_La_readPart_145 rfl h227.1 h227.2
                      refine q_if_eq o_La_readPart_137 (fun c231 => ?_) (fun c231 => ?_)
                      · refine q_iconst (v := 0) o_La_readPart_144 (by decide) ?_
                        exact hJ _ (Eq.symm (if_pos c231))
                      · refine q_iconst (v := 1) o_La_readPart_140 (by decide) ?_
                        refine q_goto o_La_readPart_141 ?_
                        exact hJ _ (Eq.symm (if_neg c231))
                · have h232 := h201.2 c202
                  refine q_aload_n o_La_readPart_84 rfl ?_
                  refine q_iload o_La_readPart_85 rfl ?_
                  have hJ : ∀ vJ : Int32, vJ = (if (if (q_I σ2 3 1) = 2 then (1 : Int32) else (0 : Int32)) = 0 then ((-1) - x4) else (q_I σ185 3 6)) → q_At G X_La_readPart (d + 1) 0 0 101 [some (.ref a0), some (.ref 3), some (.int p1), some (.int p2), some (.int x4), some (.int (if (q_I σ2 3 1) = 2 then (1 : Int32) else (0 : Int32))), some (.int x9)] [.int vJ, .ref a0] σ185 Q := by
                    intro vJ eJ
                    rw [eJ]
                    clear eJ vJ
                    refine q2_callVv _ (a := a0) (As := [.int (if (if (q_I σ2 3 1) = 2 then (1 : Int32) else (0 : Int32)) = 0 then ((-1) - x4) else (q_I σ185 3 6))]) (st := []) hs186 o_La_readPart_101 k_La_35 (kd_La_0 ha0) rfl (Nat.le_of_ble_eq_true rfl) h232 (fun σ235 hs236 h234 => ?_)
                    refine q_aload_n o_La_readPart_104 rfl ?_
                    refine q2_callVv _ (a := 3) (As := []) (st := []) hs236 o_La_readPart_105 k_La_62 rfl rfl (Nat.le_of_ble_eq_true rfl) h234 (fun σ238 hs239 h237 => ?_)
                    refine q_iconst (v := 1) o_La_readPart_108 (by decide) ?_
                    exact q_zre o_La_readPart_109 rfl rfl h237
                  refine q_if_eq o_La_readPart_87 (fun c233 => ?_) (fun c233 => ?_)
                  · refine q_iconst (v := (-1)) o_La_readPart_97 (by decide) ?_
                    refine q_iload o_La_readPart_98 rfl ?_
                    refine q_isub o_La_readPart_100 ?_
                    exact hJ _ (Eq.symm (if_pos c233))
                  · refine q_aload_n o_La_readPart_90 rfl ?_
                    refine q2_getI hs186 o_La_readPart_91 f_La_92 rfl ?_
                    refine q_goto o_La_readPart_94 ?_
                    exact hJ _ (Eq.symm (if_neg c233))
            · have h240 := h189.2 c190
              refine q_aload_n o_La_readPart_67 rfl ?_
              refine q_iconst (v := 5) o_La_readPart_68 (by decide) ?_
              refine q2_callVi _ (a := 3) (As := [.int 5]) (st := []) hs186 o_La_readPart_69 k_La_88 rfl rfl (Nat.le_of_ble_eq_true rfl) h240 (fun x244 σ242 hs243 h241 => ?_)
              exact q_zre o_La_readPart_72 rfl h241.1 h241.2
          · have h245 := h184.2 c188
            refine q_aload_n o_La_readPart_56 rfl ?_
            refine q_iconst (v := 1) o_La_readPart_57 (by decide) ?_
            refine q2_callVi _ (a := 3) (As := [.int 1]) (st := []) hs186 o_La_readPart_58 k_La_88 rfl rfl (Nat.le_of_ble_eq_true rfl) h245 (fun x249 σ247 hs248 h246 => ?_)
            exact q_zre o_La_readPart_61 rfl h246.1 h246.2
  refine q_icmp_ne o_La_readPart_12 (fun c5 => ?_) (fun c5 => ?_)
  · refine q_iconst (v := 0) o_La_readPart_19 (by decide) ?_
    exact hJ _ (Eq.symm (if_neg c5))
  · refine q_iconst (v := 1) o_La_readPart_15 (by decide) ?_
    refine q_goto o_La_readPart_16 ?_
    exact hJ _ (Eq.symm (if_pos c5))

set_option maxRecDepth 20000 in
theorem v_La_factHere_0 {G : q_G} {d : Nat} {σ : q_S} {Q : Option Value → q_S → Prop} {p1 : Int32}  (hs : q_Sh σ) (h : (((q_I σ 3 1) = 1 → (∃ k4, q_R σ 3 4 = some (1001 + k4) ∧ k4 < 34 ∧ (∃ k6, (nI k4) = nI k6 ∧ k6 < 34 ∧ ((((q_smap.getD k6 0).toInt < 5 ∨ 12 < (q_smap.getD k6 0).toInt) → Q (some (.int (-1))) σ) ∧ (((q_smap.getD k6 0).toInt = 5 → Q (some (.int (if p1 = 0 then (0 : Int32) else ((-1) : Int32)))) σ) ∧ ((q_smap.getD k6 0).toInt = 6 → Q (some (.int (if p1 = 0 then (1 : Int32) else ((-1) : Int32)))) σ) ∧ ((q_smap.getD k6 0).toInt = 7 → Q (some (.int (if p1 = 0 then (2 : Int32) else ((-1) : Int32)))) σ) ∧ ((q_smap.getD k6 0).toInt = 8 → Q (some (.int (if p1 = 1 then (0 : Int32) else (if p1 = 2 then (2 : Int32) else ((-1) : Int32))))) σ) ∧ ((q_smap.getD k6 0).toInt = 9 → Q (some (.int (if p1 = 1 then (1 : Int32) else ((-1) : Int32)))) σ) ∧ ((q_smap.getD k6 0).toInt = 10 → Q (some (.int (if p1 = 1 then (2 : Int32) else ((-1) : Int32)))) σ) ∧ ((q_smap.getD k6 0).toInt = 11 → Q (some (.int (if p1 = 2 then (0 : Int32) else ((-1) : Int32)))) σ) ∧ ((q_smap.getD k6 0).toInt = 12 → Q (some (.int (if p1 = 2 then (1 : Int32) else ((-1) : Int32)))) σ)))))) ∧ (¬ (q_I σ 3 1) = 1 → Q (some (.int (-1))) σ))) : q_At G X_La_factHere (d + 1) 0 0 0 [some (.ref 3), some (.int p1)] [] σ Q := by
  refine q_aload_n o_La_factHere_0 rfl ?_
  refine q2_getI hs o_La_factHere_1 f_La_82 rfl ?_
  refine q_iconst (v := 1) o_La_factHere_4 (by decide) ?_
  refine q_icmp_eq o_La_factHere_5 (fun c1 => ?_) (fun c1 => ?_)
  · have h2 := h.1 c1
    refine q_gets (w := .ref 1042) o_La_factHere_10 s_La_101 (fun U H hh => hh.2.2.2.2.1.1) ?_
    refine q_aload_n o_La_factHere_13 rfl ?_
    obtain ⟨k4, eh3, bh3, h3⟩ := h2
    refine q2_getR hs o_La_factHere_14 f_La_106 rfl eh3 ?_
    refine q2_ord hs o_La_factHere_17 k_La_109 bh3 (Nat.le_of_ble_eq_true rfl) ?_
    obtain ⟨k6, eh5, bh5, h5⟩ := h3
    refine q_ti (w := .int (q_smap.getD k6 0)) o_La_factHere_20 (fun U H hh => hh.2.2.2.2.1.2) eh5 bh5 (by decide) rfl ?_
    rcases q_sw 5 12 (q_smap.getD k6 0) with c0 | ⟨kk, c1, c2, c3⟩
    · have h7 := h5.1 c0
      refine q_tabOut (tgt := 162) o_La_factHere_21 c0 (by decide) ?_
      refine q_iconst (v := (-1)) o_La_factHere_162 (by decide) ?_
      exact q_ire o_La_factHere_163 rfl h7
    · have h8 := h5.2
      have hx : (q_smap.getD k6 0).toInt = 5 + (kk : Int) := c3
      have hkk : kk = 0 ∨ kk = 1 ∨ kk = 2 ∨ kk = 3 ∨ kk = 4 ∨ kk = 5 ∨ kk = 6 ∨ kk = 7 := by omega
      rcases hkk with rfl | rfl | rfl | rfl | rfl | rfl | rfl | rfl
      · have h9 := h8.1 (by simpa using hx)
        refine q_tabIn (tgt := 68) (off := 47) o_La_factHere_21 c1 c2 (by rw [show (q_smap.getD k6 0).toInt = 5 by simpa using hx]; rfl) (by decide) ?_
        refine q_iload_n o_La_factHere_68 rfl ?_
        have hJ : ∀ vJ : Int32, vJ = (if p1 = 0 then (0 : Int32) else ((-1) : Int32)) → q_At G X_La_factHere (d + 1) 0 0 77 [some (.ref 3), some (.int p1)] [.int vJ] σ Q := by
          intro vJ eJ
          rw [eJ]
          clear eJ vJ
          exact q_ire o_La_factHere_77 rfl h9
        refine q_if_ne o_La_factHere_69 (fun c10 => ?_) (fun c10 => ?_)
        · refine q_iconst (v := (-1)) o_La_factHere_76 (by decide) ?_
          exact hJ _ (Eq.symm (if_neg c10))
        · refine q_iconst (v := 0) o_La_factHere_72 (by decide) ?_
          refine q_goto o_La_factHere_73 ?_
          exact hJ _ (Eq.symm (if_pos c10))
      · have h11 := h8.2.1 (by simpa using hx)
        refine q_tabIn (tgt := 78) (off := 57) o_La_factHere_21 c1 c2 (by rw [show (q_smap.getD k6 0).toInt = 6 by simpa using hx]; rfl) (by decide) ?_
        refine q_iload_n o_La_factHere_78 rfl ?_
        have hJ : ∀ vJ : Int32, vJ = (if p1 = 0 then (1 : Int32) else ((-1) : Int32)) → q_At G X_La_factHere (d + 1) 0 0 87 [some (.ref 3), some (.int p1)] [.int vJ] σ Q := by
          intro vJ eJ
          rw [eJ]
          clear eJ vJ
          exact q_ire o_La_factHere_87 rfl h11
        refine q_if_ne o_La_factHere_79 (fun c12 => ?_) (fun c12 => ?_)
        · refine q_iconst (v := (-1)) o_La_factHere_86 (by decide) ?_
          exact hJ _ (Eq.symm (if_neg c12))
        · refine q_iconst (v := 1) o_La_factHere_82 (by decide) ?_
          refine q_goto o_La_factHere_83 ?_
          exact hJ _ (Eq.symm (if_pos c12))
      · have h13 := h8.2.2.1 (by simpa using hx)
        refine q_tabIn (tgt := 88) (off := 67) o_La_factHere_21 c1 c2 (by rw [show (q_smap.getD k6 0).toInt = 7 by simpa using hx]; rfl) (by decide) ?_
        refine q_iload_n o_La_factHere_88 rfl ?_
        have hJ : ∀ vJ : Int32, vJ = (if p1 = 0 then (2 : Int32) else ((-1) : Int32)) → q_At G X_La_factHere (d + 1) 0 0 97 [some (.ref 3), some (.int p1)] [.int vJ] σ Q := by
          intro vJ eJ
          rw [eJ]
          clear eJ vJ
          exact q_ire o_La_factHere_97 rfl h13
        refine q_if_ne o_La_factHere_89 (fun c14 => ?_) (fun c14 => ?_)
        · refine q_iconst (v := (-1)) o_La_factHere_96 (by decide) ?_
          exact hJ _ (Eq.symm (if_neg c14))
        · refine q_iconst (v := 2) o_La_factHere_92 (by decide) ?_
          refine q_goto o_La_factHere_93 ?_
          exact hJ _ (Eq.symm (if_pos c14))
      · have h15 := h8.2.2.2.1 (by simpa using hx)
        refine q_tabIn (tgt := 98) (off := 77) o_La_factHere_21 c1 c2 (by rw [show (q_smap.getD k6 0).toInt = 8 by simpa using hx]; rfl) (by decide) ?_
        refine q_iload_n o_La_factHere_98 rfl ?_
        refine q_iconst (v := 1) o_La_factHere_99 (by decide) ?_
        have hJ : ∀ vJ : Int32, vJ = (if p1 = 1 then (0 : Int32) else (if p1 = 2 then (2 : Int32) else ((-1) : Int32))) → q_At G X_La_factHere (d + 1) 0 0 117 [some (.ref 3), some (.int p1)] [.int vJ] σ Q := by
          intro vJ eJ
          rw [eJ]
          clear eJ vJ
          exact q_ire o_La_factHere_117 rfl h15
        refine q_icmp_ne o_La_factHere_100 (fun c16 => ?_) (fun c16 => ?_)
        · refine q_iload_n o_La_factHere_107 rfl ?_
          refine q_iconst (v := 2) o_La_factHere_108 (by decide) ?_
          refine q_icmp_ne o_La_factHere_109 (fun c17 => ?_) (fun c17 => ?_)
          · refine q_iconst (v := (-1)) o_La_factHere_116 (by decide) ?_
            exact hJ _ (Eq.symm ((if_neg c16).trans (if_neg c17)))
          · refine q_iconst (v := 2) o_La_factHere_112 (by decide) ?_
            refine q_goto o_La_factHere_113 ?_
            exact hJ _ (Eq.symm ((if_neg c16).trans (if_pos c17)))
        · refine q_iconst (v := 0) o_La_factHere_103 (by decide) ?_
          refine q_goto o_La_factHere_104 ?_
          exact hJ _ (Eq.symm (if_pos c16))
      · have h18 := h8.2.2.2.2.1 (by simpa using hx)
        refine q_tabIn (tgt := 118) (off := 97) o_La_factHere_21 c1 c2 (by rw [show (q_smap.getD k6 0).toInt = 9 by simpa using hx]; rfl) (by decide) ?_
        refine q_iload_n o_La_factHere_118 rfl ?_
        refine q_iconst (v := 1) o_La_factHere_119 (by decide) ?_
        have hJ : ∀ vJ : Int32, vJ = (if p1 = 1 then (1 : Int32) else ((-1) : Int32)) → q_At G X_La_factHere (d + 1) 0 0 128 [some (.ref 3), some (.int p1)] [.int vJ] σ Q := by
          intro vJ eJ
          rw [eJ]
          clear eJ vJ
          exact q_ire o_La_factHere_128 rfl h18
        refine q_icmp_ne o_La_factHere_120 (fun c19 => ?_) (fun c19 => ?_)
        · refine q_iconst (v := (-1)) o_La_factHere_127 (by decide) ?_
          exact hJ _ (Eq.symm (if_neg c19))
        · refine q_iconst (v := 1) o_La_factHere_123 (by decide) ?_
          refine q_goto o_La_factHere_124 ?_
          exact hJ _ (Eq.symm (if_pos c19))
      · have h20 := h8.2.2.2.2.2.1 (by simpa using hx)
        refine q_tabIn (tgt := 129) (off := 108) o_La_factHere_21 c1 c2 (by rw [show (q_smap.getD k6 0).toInt = 10 by simpa using hx]; rfl) (by decide) ?_
        refine q_iload_n o_La_factHere_129 rfl ?_
        refine q_iconst (v := 1) o_La_factHere_130 (by decide) ?_
        have hJ : ∀ vJ : Int32, vJ = (if p1 = 1 then (2 : Int32) else ((-1) : Int32)) → q_At G X_La_factHere (d + 1) 0 0 139 [some (.ref 3), some (.int p1)] [.int vJ] σ Q := by
          intro vJ eJ
          rw [eJ]
          clear eJ vJ
          exact q_ire o_La_factHere_139 rfl h20
        refine q_icmp_ne o_La_factHere_131 (fun c21 => ?_) (fun c21 => ?_)
        · refine q_iconst (v := (-1)) o_La_factHere_138 (by decide) ?_
          exact hJ _ (Eq.symm (if_neg c21))
        · refine q_iconst (v := 2) o_La_factHere_134 (by decide) ?_
          refine q_goto o_La_factHere_135 ?_
          exact hJ _ (Eq.symm (if_pos c21))
      · have h22 := h8.2.2.2.2.2.2.1 (by simpa using hx)
        refine q_tabIn (tgt := 140) (off := 119) o_La_factHere_21 c1 c2 (by rw [show (q_smap.getD k6 0).toInt = 11 by simpa using hx]; rfl) (by decide) ?_
        refine q_iload_n o_La_factHere_140 rfl ?_
        refine q_iconst (v := 2) o_La_factHere_141 (by decide) ?_
        have hJ : ∀ vJ : Int32, vJ = (if p1 = 2 then (0 : Int32) else ((-1) : Int32)) → q_At G X_La_factHere (d + 1) 0 0 150 [some (.ref 3), some (.int p1)] [.int vJ] σ Q := by
          intro vJ eJ
          rw [eJ]
          clear eJ vJ
          exact q_ire o_La_factHere_150 rfl h22
        refine q_icmp_ne o_La_factHere_142 (fun c23 => ?_) (fun c23 => ?_)
        · refine q_iconst (v := (-1)) o_La_factHere_149 (by decide) ?_
          exact hJ _ (Eq.symm (if_neg c23))
        · refine q_iconst (v := 0) o_La_factHere_145 (by decide) ?_
          refine q_goto o_La_factHere_146 ?_
          exact hJ _ (Eq.symm (if_pos c23))
      · have h24 := h8.2.2.2.2.2.2.2 (by simpa using hx)
        refine q_tabIn (tgt := 151) (off := 130) o_La_factHere_21 c1 c2 (by rw [show (q_smap.getD k6 0).toInt = 12 by simpa using hx]; rfl) (by decide) ?_
        refine q_iload_n o_La_factHere_151 rfl ?_
        refine q_iconst (v := 2) o_La_factHere_152 (by decide) ?_
        have hJ : ∀ vJ : Int32, vJ = (if p1 = 2 then (1 : Int32) else ((-1) : Int32)) → q_At G X_La_factHere (d + 1) 0 0 161 [some (.ref 3), some (.int p1)] [.int vJ] σ Q := by
          intro vJ eJ
          rw [eJ]
          clear eJ vJ
          exact q_ire o_La_factHere_161 rfl h24
        refine q_icmp_ne o_La_factHere_153 (fun c25 => ?_) (fun c25 => ?_)
        · refine q_iconst (v := (-1)) o_La_factHere_160 (by decide) ?_
          exact hJ _ (Eq.symm (if_neg c25))
        · refine q_iconst (v := 1) o_La_factHere_156 (by decide) ?_
          refine q_goto o_La_factHere_157 ?_
          exact hJ _ (Eq.symm (if_pos c25))
  · have h26 := h.2 c1
    refine q_iconst (v := (-1)) o_La_factHere_8 (by decide) ?_
    exact q_ire o_La_factHere_9 rfl h26

set_option maxRecDepth 20000 in
theorem v_La_valueOf_0 {G : q_G} {d : Nat} {σ : q_S} {Q : Option Value → q_S → Prop} {a0 : Nat} {p0 : Int32} {p1 : Int32} {p2 : Int32} {p3 : Int32} (ha0 : q_isLa a0) (hs : q_Sh σ) (h : ((p0 < 0 → Q (some (.int 0)) (q_setI σ a0 6 0)) ∧ (¬ p0 < 0 → ((p0 ≤ 2 → (∃ k7, p0 = nI k7 ∧ k7 < 3 ∧ q_At G X_La_valueOf (d + 1) 0 0 24 [some (.ref a0), some (.int p0), some (.int p1), some (.int p2), some (.int p3), some (.int (q_I (q_setI σ a0 6 0) (a0 + 2) k7)), none, none] [] (q_setI σ a0 6 0) Q)) ∧ (¬ p0 ≤ 2 → Q (some (.int 0)) (q_setI σ a0 6 0)))))) : q_At G X_La_valueOf (d + 1) 0 0 0 [some (.ref a0), some (.int p0), some (.int p1), some (.int p2), some (.int p3), none, none, none] [] σ Q := by
  refine q_aload_n o_La_valueOf_0 rfl ?_
  refine q_iconst (v := 0) o_La_valueOf_1 (by decide) ?_
  refine q2_putI hs o_La_valueOf_2 fp_La_113 (kd_La_0 ha0) rfl rfl ?_
  refine q_iload_n o_La_valueOf_5 rfl ?_
  refine q_if_lt o_La_valueOf_6 (fun c1 => ?_) (fun c1 => ?_)
  · have h2 := h.1 c1
    refine q_iconst (v := 0) o_La_valueOf_14 (by decide) ?_
    exact q_ire o_La_valueOf_15 rfl h2
  · have h3 := h.2 c1
    refine q_iload_n o_La_valueOf_9 rfl ?_
    refine q_iconst (v := 2) o_La_valueOf_10 (by decide) ?_
    refine q_icmp_le o_La_valueOf_11 (fun c4 => ?_) (fun c4 => ?_)
    · have h5 := h3.1 c4
      refine q_aload_n o_La_valueOf_16 rfl ?_
      refine q2_getR hs o_La_valueOf_17 f_La_15 (kd_La_0 ha0) (fz_La_1 hs ha0) ?_
      refine q_iload_n o_La_valueOf_20 rfl ?_
      obtain ⟨k7, eh6, bh6, h6⟩ := h5
      refine q2_iald hs o_La_valueOf_21 (kd_La_2 ha0) eh6 bh6 (by decide) ?_
      refine q2_ist (ls' := [some (.ref a0), some (.int p0), some (.int p1), some (.int p2), some (.int p3), some (.int (q_I (q_setI σ a0 6 0) (a0 + 2) k7)), none, none]) o_La_valueOf_22 (Nat.le_of_ble_eq_true rfl) rfl ?_
      exact h6
    · have h8 := h3.2 c4
      refine q_iconst (v := 0) o_La_valueOf_14 (by decide) ?_
      exact q_ire o_La_valueOf_15 rfl h8

set_option maxRecDepth 20000 in
theorem v_La_valueOf_24 {G : q_G} {d : Nat} {σ : q_S} {Q : Option Value → q_S → Prop} {a0 : Nat} {p0 : Int32} {p1 : Int32} {p2 : Int32} {p3 : Int32} {l5 : Int32} (ha0 : q_isLa a0) (hs : q_Sh σ) (h : ((l5 < 0 → q_Call G d 0 0 X_La_pop [.ref a0] σ (q_ri (fun x6 σ4 => Q (some (.int x6)) σ4))) ∧ (¬ l5 < 0 → (∃ k9, p0 = nI k9 ∧ k9 < 3 ∧ (((q_I σ (a0 + 3) k9) ≤ l5 → q_Call G d 0 0 X_La_pop [.ref a0] σ (q_ri (fun x15 σ13 => Q (some (.int x15)) σ13))) ∧ (¬ (q_I σ (a0 + 3) k9) ≤ l5 → ((1024 ≤ l5 → q_Call G d 0 0 X_La_pop [.ref a0] σ (q_ri (fun x22 σ20 => Q (some (.int x22)) σ20))) ∧ (¬ 1024 ≤ l5 → (∃ k25, l5 = nI k25 ∧ k25 < 1024 ∧ (((q_I σ (a0 + 1) k25) < 0 → (((q_I σ (a0 + 1) k25) < (-3) → ((¬ (q_I σ (a0 + 1) k25) = (-4) → q_Call G d 0 0 X_La_pop [.ref a0] σ (q_ri (fun x35 σ33 => q_Call G d 0 0 X_La_pop [.ref a0] σ33 (q_ri (fun x39 σ37 => q_Call G d 0 0 X_La_joined [.int (q_I σ (a0 + 1) k25), .int x39, .int x35] σ37 (q_ri (fun x43 σ41 => q_Call G d 0 0 X_La_push [.ref a0, .int x43] σ41 (q_rv (fun σ45 => q_At G X_La_valueOf (d + 1) 0 0 24 [some (.ref a0), some (.int p0), some (.int p1), some (.int p2), some (.int p3), some (.int (l5 + 1)), none, none] [] σ45 Q))))))))) ∧ ((q_I σ (a0 + 1) k25) = (-4) → q_Call G d 0 0 X_La_pop [.ref a0] σ (q_ri (fun x51 σ49 => q_Call G d 0 0 X_La_push [.ref a0, .int (if x51 = 0 then (1 : Int32) else (0 : Int32))] σ49 (q_rv (fun σ54 => q_At G X_La_valueOf (d + 1) 0 0 24 [some (.ref a0), some (.int p0), some (.int p1), some (.int p2), some (.int p3), some (.int (l5 + 1)), none, none] [] σ54 Q))))))) ∧ (¬ (q_I σ (a0 + 1) k25) < (-3) → q_Call G d 0 0 X_La_push [.ref a0, .int (if (q_I σ (a0 + 1) k25) = (-1) then p1 else (if (q_I σ (a0 + 1) k25) = (-2) then p2 else p3))] σ (q_rv (fun σ60 => q_At G X_La_valueOf (d + 1) 0 0 24 [some (.ref a0), some (.int p0), some (.int p1), some (.int p2), some (.int p3), some (.int (l5 + 1)), none, none] [] σ60 Q))))) ∧ (¬ (q_I σ (a0 + 1) k25) < 0 → q_Call G d 0 0 X_La_push [.ref a0, .int (q_I σ (a0 + 1) k25)] σ (q_rv (fun σ64 => q_At G X_La_valueOf (d + 1) 0 0 24 [some (.ref a0), some (.int p0), some (.int p1), some (.int p2), some (.int p3), some (.int (l5 + 1)), none, none] [] σ64 Q))))))))))))) : q_At G X_La_valueOf (d + 1) 0 0 24 [some (.ref a0), some (.int p0), some (.int p1), some (.int p2), some (.int p3), some (.int l5), none, none] [] σ Q := by
  refine q_iload o_La_valueOf_24 rfl ?_
  refine q_if_lt o_La_valueOf_26 (fun c1 => ?_) (fun c1 => ?_)
  · have h2 := h.1 c1
    refine q_aload_n o_La_valueOf_161 rfl ?_
    refine q2_callVi _ (a := a0) (As := []) (st := []) hs o_La_valueOf_162 k_La_119 (kd_La_0 ha0) rfl (Nat.le_of_ble_eq_true rfl) h2 (fun x6 σ4 hs5 h3 => ?_)
    exact q_ire o_La_valueOf_165 rfl h3
  · have h7 := h.2 c1
    refine q_iload o_La_valueOf_29 rfl ?_
    refine q_aload_n o_La_valueOf_31 rfl ?_
    refine q2_getR hs o_La_valueOf_32 f_La_18 (kd_La_0 ha0) (fz_La_2 hs ha0) ?_
    refine q_iload_n o_La_valueOf_35 rfl ?_
    obtain ⟨k9, eh8, bh8, h8⟩ := h7
    refine q2_iald hs o_La_valueOf_36 (kd_La_3 ha0) eh8 bh8 (by decide) ?_
    refine q_icmp_ge o_La_valueOf_37 (fun c10 => ?_) (fun c10 => ?_)
    · have h11 := h8.1 c10
      refine q_aload_n o_La_valueOf_161 rfl ?_
      refine q2_callVi _ (a := a0) (As := []) (st := []) hs o_La_valueOf_162 k_La_119 (kd_La_0 ha0) rfl (Nat.le_of_ble_eq_true rfl) h11 (fun x15 σ13 hs14 h12 => ?_)
      exact q_ire o_La_valueOf_165 rfl h12
    · have h16 := h8.2 c10
      refine q_iload o_La_valueOf_40 rfl ?_
      refine q_sipush (v := 1024) o_La_valueOf_42 (by decide) ?_
      refine q_icmp_ge o_La_valueOf_45 (fun c17 => ?_) (fun c17 => ?_)
      · have h18 := h16.1 c17
        refine q_aload_n o_La_valueOf_161 rfl ?_
        refine q2_callVi _ (a := a0) (As := []) (st := []) hs o_La_valueOf_162 k_La_119 (kd_La_0 ha0) rfl (Nat.le_of_ble_eq_true rfl) h18 (fun x22 σ20 hs21 h19 => ?_)
        exact q_ire o_La_valueOf_165 rfl h19
      · have h23 := h16.2 c17
        refine q_aload_n o_La_valueOf_48 rfl ?_
        refine q2_getR hs o_La_valueOf_49 f_La_11 (kd_La_0 ha0) (fz_La_0 hs ha0) ?_
        refine q_iload o_La_valueOf_52 rfl ?_
        obtain ⟨k25, eh24, bh24, h24⟩ := h23
        refine q2_iald hs o_La_valueOf_54 (kd_La_1 ha0) eh24 bh24 (by decide) ?_
        refine q2_ist (ls' := [some (.ref a0), some (.int p0), some (.int p1), some (.int p2), some (.int p3), some (.int l5), some (.int (q_I σ (a0 + 1) k25)), none]) o_La_valueOf_55 (Nat.le_of_ble_eq_true rfl) rfl ?_
        refine q_iload o_La_valueOf_57 rfl ?_
        refine q_if_lt o_La_valueOf_59 (fun c26 => ?_) (fun c26 => ?_)
        · have h27 := h24.1 c26
          refine q_iload o_La_valueOf_71 rfl ?_
          refine q_bipush (v := (-3)) o_La_valueOf_73 (by decide) ?_
          refine q_icmp_lt o_La_valueOf_75 (fun c28 => ?_) (fun c28 => ?_)
          · have h29 := h27.1 c28
            refine q_iload o_La_valueOf_108 rfl ?_
            refine q_bipush (v := (-4)) o_La_valueOf_110 (by decide) ?_
            refine q_icmp_ne o_La_valueOf_112 (fun c30 => ?_) (fun c30 => ?_)
            · have h31 := h29.1 c30
              refine q_aload_n o_La_valueOf_134 rfl ?_
              refine q2_callVi _ (a := a0) (As := []) (st := []) hs o_La_valueOf_135 k_La_119 (kd_La_0 ha0) rfl (Nat.le_of_ble_eq_true rfl) h31 (fun x35 σ33 hs34 h32 => ?_)
              refine q2_ist (ls' := [some (.ref a0), some (.int p0), some (.int p1), some (.int p2), some (.int p3), some (.int l5), some (.int (q_I σ (a0 + 1) k25)), some (.int x35)]) o_La_valueOf_138 (Nat.le_of_ble_eq_true rfl) rfl ?_
              refine q_aload_n o_La_valueOf_140 rfl ?_
              refine q_iload o_La_valueOf_141 rfl ?_
              refine q_aload_n o_La_valueOf_143 rfl ?_
              refine q2_callVi _ (a := a0) (As := []) (st := [.int (q_I σ (a0 + 1) k25), .ref a0]) hs34 o_La_valueOf_144 k_La_119 (kd_La_0 ha0) rfl (Nat.le_of_ble_eq_true rfl) h32 (fun x39 σ37 hs38 h36 => ?_)
              refine q_iload o_La_valueOf_147 rfl ?_
              refine q2_callSi _ (As := [.int (q_I σ (a0 + 1) k25), .int x39, .int x35]) (st := [.ref a0]) hs38 o_La_valueOf_149 k_La_122 rfl (Nat.le_of_ble_eq_true rfl) h36 (fun x43 σ41 hs42 h40 => ?_)
              refine q2_callVv _ (a := a0) (As := [.int x43]) (st := []) hs42 o_La_valueOf_152 k_La_116 (kd_La_0 ha0) rfl (Nat.le_of_ble_eq_true rfl) h40 (fun σ45 hs46 h44 => ?_)
              refine q2_inc (v := (l5 + 1)) (ls' := [some (.ref a0), some (.int p0), some (.int p1), some (.int p2), some (.int p3), some (.int (l5 + 1)), some (.int (q_I σ (a0 + 1) k25)), some (.int x35)]) o_La_valueOf_155 rfl rfl (Nat.le_of_ble_eq_true rfl) rfl ?_
              refine q_goto o_La_valueOf_158 ?_
              exact q_weak (ls' := [some (.ref a0), some (.int p0), some (.int p1), some (.int p2), some (.int p3), some (.int (l5 + 1)), none, none]) (And.intro rfl (And.intro rfl (And.intro rfl (And.intro rfl (And.intro rfl (And.intro rfl trivial)))))) h44
            · have h47 := h29.2 c30
              refine q_aload_n o_La_valueOf_115 rfl ?_
              refine q_aload_n o_La_valueOf_116 rfl ?_
              refine q2_callVi _ (a := a0) (As := []) (st := [.ref a0]) hs o_La_valueOf_117 k_La_119 (kd_La_0 ha0) rfl (Nat.le_of_ble_eq_true rfl) h47 (fun x51 σ49 hs50 h48 => ?_)
              have hJ : ∀ vJ : Int32, vJ = (if x51 = 0 then (1 : Int32) else (0 : Int32)) → q_At G X_La_valueOf (d + 1) 0 0 128 [some (.ref a0), some (.int p0), some (.int p1), some (.int p2), some (.int p3), some (.int l5), some (.int (q_I σ (a0 + 1) k25)), none] [.int vJ, .ref a0] σ49 Q := by
                intro vJ eJ
                rw [eJ]
                clear eJ vJ
                refine q2_callVv _ (a := a0) (As := [.int (if x51 = 0 then (1 : Int32) else (0 : Int32))]) (st := []) hs50 o_La_valueOf_128 k_La_116 (kd_La_0 ha0) rfl (Nat.le_of_ble_eq_true rfl) h48 (fun σ54 hs55 h53 => ?_)
                refine q_goto o_La_valueOf_131 ?_
                refine q2_inc (v := (l5 + 1)) (ls' := [some (.ref a0), some (.int p0), some (.int p1), some (.int p2), some (.int p3), some (.int (l5 + 1)), some (.int (q_I σ (a0 + 1) k25)), none]) o_La_valueOf_155 rfl rfl (Nat.le_of_ble_eq_true rfl) rfl ?_
                refine q_goto o_La_valueOf_158 ?_
                exact q_weak (ls' := [some (.ref a0), some (.int p0), some (.int p1), some (.int p2), some (.int p3), some (.int (l5 + 1)), none, none]) (And.intro rfl (And.intro rfl (And.intro rfl (And.intro rfl (And.intro rfl (And.intro rfl trivial)))))) h53
              refine q_if_ne o_La_valueOf_120 (fun c52 => ?_) (fun c52 => ?_)
              · refine q_iconst (v := 0) o_La_valueOf_127 (by decide) ?_
                exact hJ _ (Eq.symm (if_neg c52))
              · refine q_iconst (v := 1) o_La_valueOf_123 (by decide) ?_
                refine q_goto o_La_valueOf_124 ?_
                exact hJ _ (Eq.symm (if_pos c52))
          · have h56 := h27.2 c28
            refine q_aload_n o_La_valueOf_78 rfl ?_
            refine q_iload o_La_valueOf_79 rfl ?_
            refine q_iconst (v := (-1)) o_La_valueOf_81 (by decide) ?_
            have hJ : ∀ vJ : Int32, vJ = (if (q_I σ (a0 + 1) k25) = (-1) then p1 else (if (q_I σ (a0 + 1) k25) = (-2) then p2 else p3)) → q_At G X_La_valueOf (d + 1) 0 0 102 [some (.ref a0), some (.int p0), some (.int p1), some (.int p2), some (.int p3), some (.int l5), some (.int (q_I σ (a0 + 1) k25)), none] [.int vJ, .ref a0] σ Q := by
              intro vJ eJ
              rw [eJ]
              clear eJ vJ
              refine q2_callVv _ (a := a0) (As := [.int (if (q_I σ (a0 + 1) k25) = (-1) then p1 else (if (q_I σ (a0 + 1) k25) = (-2) then p2 else p3))]) (st := []) hs o_La_valueOf_102 k_La_116 (kd_La_0 ha0) rfl (Nat.le_of_ble_eq_true rfl) h56 (fun σ60 hs61 h59 => ?_)
              refine q_goto o_La_valueOf_105 ?_
              refine q2_inc (v := (l5 + 1)) (ls' := [some (.ref a0), some (.int p0), some (.int p1), some (.int p2), some (.int p3), some (.int (l5 + 1)), some (.int (q_I σ (a0 + 1) k25)), none]) o_La_valueOf_155 rfl rfl (Nat.le_of_ble_eq_true rfl) rfl ?_
              refine q_goto o_La_valueOf_158 ?_
              exact q_weak (ls' := [some (.ref a0), some (.int p0), some (.int p1), some (.int p2), some (.int p3), some (.int (l5 + 1)), none, none]) (And.intro rfl (And.intro rfl (And.intro rfl (And.intro rfl (And.intro rfl (And.intro rfl trivial)))))) h59
            refine q_icmp_ne o_La_valueOf_82 (fun c57 => ?_) (fun c57 => ?_)
            · refine q_iload o_La_valueOf_89 rfl ?_
              refine q_bipush (v := (-2)) o_La_valueOf_91 (by decide) ?_
              refine q_icmp_ne o_La_valueOf_93 (fun c58 => ?_) (fun c58 => ?_)
              · refine q_iload o_La_valueOf_100 rfl ?_
                exact hJ _ (Eq.symm ((if_neg c57).trans (if_neg c58)))
              · refine q_iload_n o_La_valueOf_96 rfl ?_
                refine q_goto o_La_valueOf_97 ?_
                exact hJ _ (Eq.symm ((if_neg c57).trans (if_pos c58)))
            · refine q_iload_n o_La_valueOf_85 rfl ?_
              refine q_goto o_La_valueOf_86 ?_
              exact hJ _ (Eq.symm (if_pos c57))
        · have h62 := h24.2 c26
          refine q_aload_n o_La_valueOf_62 rfl ?_
          refine q_iload o_La_valueOf_63 rfl ?_
          refine q2_callVv _ (a := a0) (As := [.int (q_I σ (a0 + 1) k25)]) (st := []) hs o_La_valueOf_65 k_La_116 (kd_La_0 ha0) rfl (Nat.le_of_ble_eq_true rfl) h62 (fun σ64 hs65 h63 => ?_)
          refine q_goto o_La_valueOf_68 ?_
          refine q2_inc (v := (l5 + 1)) (ls' := [some (.ref a0), some (.int p0), some (.int p1), some (.int p2), some (.int p3), some (.int (l5 + 1)), some (.int (q_I σ (a0 + 1) k25)), none]) o_La_valueOf_155 rfl rfl (Nat.le_of_ble_eq_true rfl) rfl ?_
          refine q_goto o_La_valueOf_158 ?_
          exact q_weak (ls' := [some (.ref a0), some (.int p0), some (.int p1), some (.int p2), some (.int p3), some (.int (l5 + 1)), none, none]) (And.intro rfl (And.intro rfl (And.intro rfl (And.intro rfl (And.intro rfl (And.intro rfl trivial)))))) h63

set_option maxRecDepth 20000 in
theorem v_La_joined_0 {G : q_G} {d : Nat} {σ : q_S} {Q : Option Value → q_S → Prop} {p0 : Int32} {p1 : Int32} {p2 : Int32}  (hs : q_Sh σ) (h : (((p0.toInt < (-10) ∨ (-5) < p0.toInt) → Q (some (.int (p1 * p2))) σ) ∧ ((p0.toInt = (-10) → Q (some (.int (p1 - p2))) σ) ∧ (p0.toInt = (-9) → Q (some (.int (p1 + p2))) σ) ∧ (p0.toInt = (-8) → Q (some (.int (if p1 = p2 then (1 : Int32) else (0 : Int32)))) σ) ∧ (p0.toInt = (-7) → Q (some (.int (if p2 ≤ p1 then (0 : Int32) else (1 : Int32)))) σ) ∧ (p0.toInt = (-6) → Q (some (.int (if p1 = 0 then (if p2 = 0 then (0 : Int32) else (1 : Int32)) else (1 : Int32)))) σ) ∧ (p0.toInt = (-5) → Q (some (.int (if p1 = 0 then (0 : Int32) else (if p2 = 0 then (0 : Int32) else (1 : Int32))))) σ)))) : q_At G X_La_joined d 0 0 0 [some (.int p0), some (.int p1), some (.int p2)] [] σ Q := by
  refine q_iload_n o_La_joined_0 rfl ?_
  rcases q_sw (-10) (-5) p0 with c0 | ⟨kk, c1, c2, c3⟩
  · have h1 := h.1 c0
    refine q_tabOut (tgt := 98) o_La_joined_1 c0 (by decide) ?_
    refine q_iload_n o_La_joined_98 rfl ?_
    refine q_iload_n o_La_joined_99 rfl ?_
    refine q_imul o_La_joined_100 ?_
    exact q_ire o_La_joined_101 rfl h1
  · have h2 := h.2
    have hx : p0.toInt = -10 + (kk : Int) := c3
    have hkk : kk = 0 ∨ kk = 1 ∨ kk = 2 ∨ kk = 3 ∨ kk = 4 ∨ kk = 5 := by omega
    rcases hkk with rfl | rfl | rfl | rfl | rfl | rfl
    · have h3 := h2.1 (by simpa using hx)
      refine q_tabIn (tgt := 94) (off := 93) o_La_joined_1 c1 c2 (by rw [show p0.toInt = -10 by simpa using hx]; rfl) (by decide) ?_
      refine q_iload_n o_La_joined_94 rfl ?_
      refine q_iload_n o_La_joined_95 rfl ?_
      refine q_isub o_La_joined_96 ?_
      exact q_ire o_La_joined_97 rfl h3
    · have h4 := h2.2.1 (by simpa using hx)
      refine q_tabIn (tgt := 90) (off := 89) o_La_joined_1 c1 c2 (by rw [show p0.toInt = -9 by simpa using hx]; rfl) (by decide) ?_
      refine q_iload_n o_La_joined_90 rfl ?_
      refine q_iload_n o_La_joined_91 rfl ?_
      refine q_iadd o_La_joined_92 ?_
      exact q_ire o_La_joined_93 rfl h4
    · have h5 := h2.2.2.1 (by simpa using hx)
      refine q_tabIn (tgt := 79) (off := 78) o_La_joined_1 c1 c2 (by rw [show p0.toInt = -8 by simpa using hx]; rfl) (by decide) ?_
      refine q_iload_n o_La_joined_79 rfl ?_
      refine q_iload_n o_La_joined_80 rfl ?_
      have hJ : ∀ vJ : Int32, vJ = (if p1 = p2 then (1 : Int32) else (0 : Int32)) → q_At G X_La_joined d 0 0 89 [some (.int p0), some (.int p1), some (.int p2)] [.int vJ] σ Q := by
        intro vJ eJ
        rw [eJ]
        clear eJ vJ
        exact q_ire o_La_joined_89 rfl h5
      refine q_icmp_ne o_La_joined_81 (fun c6 => ?_) (fun c6 => ?_)
      · refine q_iconst (v := 0) o_La_joined_88 (by decide) ?_
        exact hJ _ (Eq.symm (if_neg c6))
      · refine q_iconst (v := 1) o_La_joined_84 (by decide) ?_
        refine q_goto o_La_joined_85 ?_
        exact hJ _ (Eq.symm (if_pos c6))
    · have h7 := h2.2.2.2.1 (by simpa using hx)
      refine q_tabIn (tgt := 68) (off := 67) o_La_joined_1 c1 c2 (by rw [show p0.toInt = -7 by simpa using hx]; rfl) (by decide) ?_
      refine q_iload_n o_La_joined_68 rfl ?_
      refine q_iload_n o_La_joined_69 rfl ?_
      have hJ : ∀ vJ : Int32, vJ = (if p2 ≤ p1 then (0 : Int32) else (1 : Int32)) → q_At G X_La_joined d 0 0 78 [some (.int p0), some (.int p1), some (.int p2)] [.int vJ] σ Q := by
        intro vJ eJ
        rw [eJ]
        clear eJ vJ
        exact q_ire o_La_joined_78 rfl h7
      refine q_icmp_ge o_La_joined_70 (fun c8 => ?_) (fun c8 => ?_)
      · refine q_iconst (v := 0) o_La_joined_77 (by decide) ?_
        exact hJ _ (Eq.symm (if_pos c8))
      · refine q_iconst (v := 1) o_La_joined_73 (by decide) ?_
        refine q_goto o_La_joined_74 ?_
        exact hJ _ (Eq.symm (if_neg c8))
    · have h9 := h2.2.2.2.2.1 (by simpa using hx)
      refine q_tabIn (tgt := 54) (off := 53) o_La_joined_1 c1 c2 (by rw [show p0.toInt = -6 by simpa using hx]; rfl) (by decide) ?_
      refine q_iload_n o_La_joined_54 rfl ?_
      have hJ : ∀ vJ : Int32, vJ = (if p1 = 0 then (if p2 = 0 then (0 : Int32) else (1 : Int32)) else (1 : Int32)) → q_At G X_La_joined d 0 0 67 [some (.int p0), some (.int p1), some (.int p2)] [.int vJ] σ Q := by
        intro vJ eJ
        rw [eJ]
        clear eJ vJ
        exact q_ire o_La_joined_67 rfl h9
      refine q_if_ne o_La_joined_55 (fun c10 => ?_) (fun c10 => ?_)
      · refine q_iconst (v := 1) o_La_joined_62 (by decide) ?_
        refine q_goto o_La_joined_63 ?_
        exact hJ _ (Eq.symm (if_neg c10))
      · refine q_iload_n o_La_joined_58 rfl ?_
        refine q_if_eq o_La_joined_59 (fun c11 => ?_) (fun c11 => ?_)
        · refine q_iconst (v := 0) o_La_joined_66 (by decide) ?_
          exact hJ _ (Eq.symm ((if_pos c10).trans (if_pos c11)))
        · refine q_iconst (v := 1) o_La_joined_62 (by decide) ?_
          refine q_goto o_La_joined_63 ?_
          exact hJ _ (Eq.symm ((if_pos c10).trans (if_neg c11)))
    · have h12 := h2.2.2.2.2.2 (by simpa using hx)
      refine q_tabIn (tgt := 40) (off := 39) o_La_joined_1 c1 c2 (by rw [show p0.toInt = -5 by simpa using hx]; rfl) (by decide) ?_
      refine q_iload_n o_La_joined_40 rfl ?_
      have hJ : ∀ vJ : Int32, vJ = (if p1 = 0 then (0 : Int32) else (if p2 = 0 then (0 : Int32) else (1 : Int32))) → q_At G X_La_joined d 0 0 53 [some (.int p0), some (.int p1), some (.int p2)] [.int vJ] σ Q := by
        intro vJ eJ
        rw [eJ]
        clear eJ vJ
        exact q_ire o_La_joined_53 rfl h12
      refine q_if_eq o_La_joined_41 (fun c13 => ?_) (fun c13 => ?_)
      · refine q_iconst (v := 0) o_La_joined_52 (by decide) ?_
        exact hJ _ (Eq.symm (if_pos c13))
      · refine q_iload_n o_La_joined_44 rfl ?_
        refine q_if_eq o_La_joined_45 (fun c14 => ?_) (fun c14 => ?_)
        · refine q_iconst (v := 0) o_La_joined_52 (by decide) ?_
          exact hJ _ (Eq.symm ((if_neg c13).trans (if_pos c14)))
        · refine q_iconst (v := 1) o_La_joined_48 (by decide) ?_
          refine q_goto o_La_joined_49 ?_
          exact hJ _ (Eq.symm ((if_neg c13).trans (if_neg c14)))

set_option maxRecDepth 20000 in
theorem v_La_push_0 {G : q_G} {d : Nat} {σ : q_S} {Q : Option Value → q_S → Prop} {a0 : Nat} {p0 : Int32} (ha0 : q_isLa a0) (hs : q_Sh σ) (h : ((32 ≤ (q_I σ a0 6) → Q none σ) ∧ (¬ 32 ≤ (q_I σ a0 6) → (∃ k5, (q_I σ a0 6) = nI k5 ∧ k5 < 32 ∧ Q none (q_setI (q_setI σ (a0 + 5) k5 p0) a0 6 ((q_I (q_setI σ (a0 + 5) k5 p0) a0 6) + 1)))))) : q_At G X_La_push d 0 0 0 [some (.ref a0), some (.int p0)] [] σ Q := by
  refine q_aload_n o_La_push_0 rfl ?_
  refine q2_getI hs o_La_push_1 f_La_113 (kd_La_0 ha0) ?_
  refine q_bipush (v := 32) o_La_push_4 (by decide) ?_
  refine q_icmp_ge o_La_push_6 (fun c1 => ?_) (fun c1 => ?_)
  · have h2 := h.1 c1
    exact q_vre o_La_push_29 rfl h2
  · have h3 := h.2 c1
    refine q_aload_n o_La_push_9 rfl ?_
    refine q2_getR hs o_La_push_10 f_La_25 (kd_La_0 ha0) (fz_La_4 hs ha0) ?_
    refine q_aload_n o_La_push_13 rfl ?_
    refine q2_getI hs o_La_push_14 f_La_113 (kd_La_0 ha0) ?_
    refine q_iload_n o_La_push_17 rfl ?_
    obtain ⟨k5, eh4, bh4, h4⟩ := h3
    refine q2_iast hs o_La_push_18 (kd_La_5 ha0) eh4 bh4 (by decide) ?_
    refine q_aload_n o_La_push_19 rfl ?_
    refine q_dup o_La_push_20 rfl ?_
    refine q2_getI hs o_La_push_21 f_La_113 (kd_La_0 ha0) ?_
    refine q_iconst (v := 1) o_La_push_24 (by decide) ?_
    refine q_iadd o_La_push_25 ?_
    refine q2_putI hs o_La_push_26 fp_La_113 (kd_La_0 ha0) rfl rfl ?_
    exact q_vre o_La_push_29 rfl h4

set_option maxRecDepth 20000 in
theorem v_La_pop_0 {G : q_G} {d : Nat} {σ : q_S} {Q : Option Value → q_S → Prop} {a0 : Nat} (ha0 : q_isLa a0) (hs : q_Sh σ) (h : ((1 ≤ (q_I σ a0 6) → (∃ k4, (q_I (q_setI σ a0 6 ((q_I σ a0 6) - 1)) a0 6) = nI k4 ∧ k4 < 32 ∧ Q (some (.int (q_I (q_setI σ a0 6 ((q_I σ a0 6) - 1)) (a0 + 5) k4))) (q_setI σ a0 6 ((q_I σ a0 6) - 1)))) ∧ (¬ 1 ≤ (q_I σ a0 6) → Q (some (.int 0)) σ))) : q_At G X_La_pop d 0 0 0 [some (.ref a0)] [] σ Q := by
  refine q_aload_n o_La_pop_0 rfl ?_
  refine q2_getI hs o_La_pop_1 f_La_113 (kd_La_0 ha0) ?_
  refine q_iconst (v := 1) o_La_pop_4 (by decide) ?_
  refine q_icmp_ge o_La_pop_5 (fun c1 => ?_) (fun c1 => ?_)
  · have h2 := h.1 c1
    refine q_aload_n o_La_pop_10 rfl ?_
    refine q_dup o_La_pop_11 rfl ?_
    refine q2_getI hs o_La_pop_12 f_La_113 (kd_La_0 ha0) ?_
    refine q_iconst (v := 1) o_La_pop_15 (by decide) ?_
    refine q_isub o_La_pop_16 ?_
    refine q2_putI hs o_La_pop_17 fp_La_113 (kd_La_0 ha0) rfl rfl ?_
    refine q_aload_n o_La_pop_20 rfl ?_
    refine q2_getR hs o_La_pop_21 f_La_25 (kd_La_0 ha0) (fz_La_4 hs ha0) ?_
    refine q_aload_n o_La_pop_24 rfl ?_
    refine q2_getI hs o_La_pop_25 f_La_113 (kd_La_0 ha0) ?_
    obtain ⟨k4, eh3, bh3, h3⟩ := h2
    refine q2_iald hs o_La_pop_28 (kd_La_5 ha0) eh3 bh3 (by decide) ?_
    exact q_ire o_La_pop_29 rfl h3
  · have h5 := h.2 c1
    refine q_iconst (v := 0) o_La_pop_8 (by decide) ?_
    exact q_ire o_La_pop_9 rfl h5

set_option maxRecDepth 20000 in
theorem v_Li_begin_0 {G : q_G} {d : Nat} {σ : q_S} {Q : Option Value → q_S → Prop} {a0 : Nat} {p0 : Nat} (ha0 : q_isLi a0) (hp0 : q_isTw p0) (hs : q_Sh σ) (h : q_At G X_Li_begin (d + 1) 0 0 2 [some (.ref a0), some (.ref p0), some (.int 0)] [] σ Q) : q_At G X_Li_begin (d + 1) 0 0 0 [some (.ref a0), some (.ref p0), none] [] σ Q := by
  refine q_iconst (v := 0) o_Li_begin_0 (by decide) ?_
  refine q2_istn (ls' := [some (.ref a0), some (.ref p0), some (.int 0)]) o_Li_begin_1 (Nat.le_of_ble_eq_true rfl) rfl ?_
  exact h

set_option maxRecDepth 20000 in
theorem v_Li_begin_2 {G : q_G} {d : Nat} {σ : q_S} {Q : Option Value → q_S → Prop} {a0 : Nat} {p0 : Nat} {l2 : Int32} (ha0 : q_isLi a0) (hp0 : q_isTw p0) (hs : q_Sh σ) (h : ((6 ≤ l2 → Q none (q_setI (q_setI (q_cpI σ (p0 + 10) 0 (a0 + 3) 0 36) a0 3 0) a0 4 0)) ∧ (¬ 6 ≤ l2 → (∃ k5, l2 = nI k5 ∧ k5 < 6 ∧ (((q_I (q_setI σ (a0 + 1) k5 l2) p0 14) ≤ l2 → (∃ k9, l2 = nI k9 ∧ k9 < 6 ∧ q_At G X_Li_begin (d + 1) 0 0 2 [some (.ref a0), some (.ref p0), some (.int (l2 + 1))] [] (q_setI (q_setI σ (a0 + 1) k5 l2) (a0 + 2) k9 0) Q)) ∧ (¬ (q_I (q_setI σ (a0 + 1) k5 l2) p0 14) ≤ l2 → (∃ k12, l2 = nI k12 ∧ k12 < 6 ∧ (∃ k14, l2 = nI k14 ∧ k14 < 6 ∧ q_At G X_Li_begin (d + 1) 0 0 2 [some (.ref a0), some (.ref p0), some (.int (l2 + 1))] [] (q_setI (q_setI σ (a0 + 1) k5 l2) (a0 + 2) k14 (q_I (q_setI σ (a0 + 1) k5 l2) (p0 + 6) k12)) Q)))))))) : q_At G X_Li_begin (d + 1) 0 0 2 [some (.ref a0), some (.ref p0), some (.int l2)] [] σ Q := by
  refine q_iload_n o_Li_begin_2 rfl ?_
  refine q_bipush (v := 6) o_Li_begin_3 (by decide) ?_
  refine q_icmp_ge o_Li_begin_5 (fun c1 => ?_) (fun c1 => ?_)
  · have h2 := h.1 c1
    refine q_aload_n o_Li_begin_45 rfl ?_
    refine q2_getR hs o_Li_begin_46 f_Li_28 (kd_Tw_0 hp0) (fz_Tw_9 hs hp0) ?_
    refine q_iconst (v := 0) o_Li_begin_49 (by decide) ?_
    refine q_aload_n o_Li_begin_50 rfl ?_
    refine q2_getR hs o_Li_begin_51 f_Li_18 (kd_Li_0 ha0) (fz_Li_2 hs ha0) ?_
    refine q_iconst (v := 0) o_Li_begin_54 (by decide) ?_
    refine q_aload_n o_Li_begin_55 rfl ?_
    refine q2_getR hs o_Li_begin_56 f_Li_18 (kd_Li_0 ha0) (fz_Li_2 hs ha0) ?_
    refine q2_alen hs o_Li_begin_59 (kd_Li_3 ha0) (by decide) (by decide) ?_
    refine q2_copy (i := 0) (j := 0) (n := 36) hs o_Li_begin_60 k_Li_29 (Nat.le_of_ble_eq_true rfl) (kd_Tw_10 hp0) (kd_Li_3 ha0) rfl rfl rfl (by decide) (by decide) (by decide) (by decide) ?_
    refine q_aload_n o_Li_begin_63 rfl ?_
    refine q_iconst (v := 0) o_Li_begin_64 (by decide) ?_
    refine q2_putI hs o_Li_begin_65 fp_Li_35 (kd_Li_0 ha0) rfl rfl ?_
    refine q_aload_n o_Li_begin_68 rfl ?_
    refine q_iconst (v := 0) o_Li_begin_69 (by decide) ?_
    refine q2_putI hs o_Li_begin_70 fp_Li_38 (kd_Li_0 ha0) rfl rfl ?_
    exact q_vre o_Li_begin_73 rfl h2
  · have h3 := h.2 c1
    refine q_aload_n o_Li_begin_8 rfl ?_
    refine q2_getR hs o_Li_begin_9 f_Li_9 (kd_Li_0 ha0) (fz_Li_0 hs ha0) ?_
    refine q_iload_n o_Li_begin_12 rfl ?_
    refine q_iload_n o_Li_begin_13 rfl ?_
    obtain ⟨k5, eh4, bh4, h4⟩ := h3
    refine q2_iast hs o_Li_begin_14 (kd_Li_1 ha0) eh4 bh4 (by decide) ?_
    refine q_aload_n o_Li_begin_15 rfl ?_
    refine q2_getR hs o_Li_begin_16 f_Li_15 (kd_Li_0 ha0) (fz_Li_1 hs ha0) ?_
    refine q_iload_n o_Li_begin_19 rfl ?_
    refine q_iload_n o_Li_begin_20 rfl ?_
    refine q_aload_n o_Li_begin_21 rfl ?_
    refine q2_getI hs o_Li_begin_22 f_Li_21 (kd_Tw_0 hp0) ?_
    refine q_icmp_ge o_Li_begin_25 (fun c6 => ?_) (fun c6 => ?_)
    · have h7 := h4.1 c6
      refine q_iconst (v := 0) o_Li_begin_37 (by decide) ?_
      obtain ⟨k9, eh8, bh8, h8⟩ := h7
      refine q2_iast hs o_Li_begin_38 (kd_Li_2 ha0) eh8 bh8 (by decide) ?_
      refine q2_inc (v := (l2 + 1)) (ls' := [some (.ref a0), some (.ref p0), some (.int (l2 + 1))]) o_Li_begin_39 rfl rfl (Nat.le_of_ble_eq_true rfl) rfl ?_
      refine q_goto o_Li_begin_42 ?_
      exact h8
    · have h10 := h4.2 c6
      refine q_aload_n o_Li_begin_28 rfl ?_
      refine q2_getR hs o_Li_begin_29 f_Li_27 (kd_Tw_0 hp0) (fz_Tw_5 hs hp0) ?_
      refine q_iload_n o_Li_begin_32 rfl ?_
      obtain ⟨k12, eh11, bh11, h11⟩ := h10
      refine q2_iald hs o_Li_begin_33 (kd_Tw_6 hp0) eh11 bh11 (by decide) ?_
      refine q_goto o_Li_begin_34 ?_
      obtain ⟨k14, eh13, bh13, h13⟩ := h11
      refine q2_iast hs o_Li_begin_38 (kd_Li_2 ha0) eh13 bh13 (by decide) ?_
      refine q2_inc (v := (l2 + 1)) (ls' := [some (.ref a0), some (.ref p0), some (.int (l2 + 1))]) o_Li_begin_39 rfl rfl (Nat.le_of_ble_eq_true rfl) rfl ?_
      refine q_goto o_Li_begin_42 ?_
      exact h13

set_option maxRecDepth 20000 in
theorem v_Li_become_0 {G : q_G} {d : Nat} {σ : q_S} {Q : Option Value → q_S → Prop} {a0 : Nat} {p0 : Nat} (ha0 : q_isLi a0) (hp0 : q_isLi p0) (hs : q_Sh σ) (h : Q none (q_setI (q_setI (q_cpI (q_cpI (q_cpI σ (p0 + 1) 0 (a0 + 1) 0 6) (p0 + 2) 0 (a0 + 2) 0 6) (p0 + 3) 0 (a0 + 3) 0 36) a0 3 (q_I (q_cpI (q_cpI (q_cpI σ (p0 + 1) 0 (a0 + 1) 0 6) (p0 + 2) 0 (a0 + 2) 0 6) (p0 + 3) 0 (a0 + 3) 0 36) p0 3)) a0 4 (q_I (q_setI (q_cpI (q_cpI (q_cpI σ (p0 + 1) 0 (a0 + 1) 0 6) (p0 + 2) 0 (a0 + 2) 0 6) (p0 + 3) 0 (a0 + 3) 0 36) a0 3 (q_I (q_cpI (q_cpI (q_cpI σ (p0 + 1) 0 (a0 + 1) 0 6) (p0 + 2) 0 (a0 + 2) 0 6) (p0 + 3) 0 (a0 + 3) 0 36) p0 3)) p0 4))) : q_At G X_Li_become (d + 1) 0 0 0 [some (.ref a0), some (.ref p0)] [] σ Q := by
  refine q_aload_n o_Li_become_0 rfl ?_
  refine q2_getR hs o_Li_become_1 f_Li_9 (kd_Li_0 hp0) (fz_Li_0 hs hp0) ?_
  refine q_iconst (v := 0) o_Li_become_4 (by decide) ?_
  refine q_aload_n o_Li_become_5 rfl ?_
  refine q2_getR hs o_Li_become_6 f_Li_9 (kd_Li_0 ha0) (fz_Li_0 hs ha0) ?_
  refine q_iconst (v := 0) o_Li_become_9 (by decide) ?_
  refine q_aload_n o_Li_become_10 rfl ?_
  refine q2_getR hs o_Li_become_11 f_Li_9 (kd_Li_0 ha0) (fz_Li_0 hs ha0) ?_
  refine q2_alen hs o_Li_become_14 (kd_Li_1 ha0) (by decide) (by decide) ?_
  refine q2_copy (i := 0) (j := 0) (n := 6) hs o_Li_become_15 k_Li_29 (Nat.le_of_ble_eq_true rfl) (kd_Li_1 hp0) (kd_Li_1 ha0) rfl rfl rfl (by decide) (by decide) (by decide) (by decide) ?_
  refine q_aload_n o_Li_become_18 rfl ?_
  refine q2_getR hs o_Li_become_19 f_Li_15 (kd_Li_0 hp0) (fz_Li_1 hs hp0) ?_
  refine q_iconst (v := 0) o_Li_become_22 (by decide) ?_
  refine q_aload_n o_Li_become_23 rfl ?_
  refine q2_getR hs o_Li_become_24 f_Li_15 (kd_Li_0 ha0) (fz_Li_1 hs ha0) ?_
  refine q_iconst (v := 0) o_Li_become_27 (by decide) ?_
  refine q_aload_n o_Li_become_28 rfl ?_
  refine q2_getR hs o_Li_become_29 f_Li_15 (kd_Li_0 ha0) (fz_Li_1 hs ha0) ?_
  refine q2_alen hs o_Li_become_32 (kd_Li_2 ha0) (by decide) (by decide) ?_
  refine q2_copy (i := 0) (j := 0) (n := 6) hs o_Li_become_33 k_Li_29 (Nat.le_of_ble_eq_true rfl) (kd_Li_2 hp0) (kd_Li_2 ha0) rfl rfl rfl (by decide) (by decide) (by decide) (by decide) ?_
  refine q_aload_n o_Li_become_36 rfl ?_
  refine q2_getR hs o_Li_become_37 f_Li_18 (kd_Li_0 hp0) (fz_Li_2 hs hp0) ?_
  refine q_iconst (v := 0) o_Li_become_40 (by decide) ?_
  refine q_aload_n o_Li_become_41 rfl ?_
  refine q2_getR hs o_Li_become_42 f_Li_18 (kd_Li_0 ha0) (fz_Li_2 hs ha0) ?_
  refine q_iconst (v := 0) o_Li_become_45 (by decide) ?_
  refine q_aload_n o_Li_become_46 rfl ?_
  refine q2_getR hs o_Li_become_47 f_Li_18 (kd_Li_0 ha0) (fz_Li_2 hs ha0) ?_
  refine q2_alen hs o_Li_become_50 (kd_Li_3 ha0) (by decide) (by decide) ?_
  refine q2_copy (i := 0) (j := 0) (n := 36) hs o_Li_become_51 k_Li_29 (Nat.le_of_ble_eq_true rfl) (kd_Li_3 hp0) (kd_Li_3 ha0) rfl rfl rfl (by decide) (by decide) (by decide) (by decide) ?_
  refine q_aload_n o_Li_become_54 rfl ?_
  refine q_aload_n o_Li_become_55 rfl ?_
  refine q2_getI hs o_Li_become_56 f_Li_35 (kd_Li_0 hp0) ?_
  refine q2_putI hs o_Li_become_59 fp_Li_35 (kd_Li_0 ha0) rfl rfl ?_
  refine q_aload_n o_Li_become_62 rfl ?_
  refine q_aload_n o_Li_become_63 rfl ?_
  refine q2_getI hs o_Li_become_64 f_Li_38 (kd_Li_0 hp0) ?_
  refine q2_putI hs o_Li_become_67 fp_Li_38 (kd_Li_0 ha0) rfl rfl ?_
  exact q_vre o_Li_become_70 rfl h

set_option maxRecDepth 20000 in
theorem v_Li_lapsing_0 {G : q_G} {d : Nat} {σ : q_S} {Q : Option Value → q_S → Prop} {a0 : Nat} {p0 : Nat} {p1 : Int32} {p2 : Int32} (ha0 : q_isLi a0) (hp0 : q_isTw p0) (hs : q_Sh σ) (h : (∃ k2, p2 = nI k2 ∧ k2 < 6 ∧ (((q_I σ (p0 + 3) k2) = 3 → Q (some (.int 0)) σ) ∧ (¬ (q_I σ (p0 + 3) k2) = 3 → q_Call G d 0 0 X_Tw_areNeighbours [.ref p0, .ref (a0 + 1), .int p1, .int p2] σ (q_ri (fun x10 σ8 => (((if x10 = 0 then (0 : Int32) else (1 : Int32)) = 0 → Q (some (.int 0)) σ8) ∧ (¬ (if x10 = 0 then (0 : Int32) else (1 : Int32)) = 0 → (∃ k16, ((p1 * 6) + p2) = nI k16 ∧ k16 < 36 ∧ Q (some (.int (q_I σ8 (a0 + 3) k16))) σ8))))))))) : q_At G X_Li_lapsing (d + 1) 0 0 0 [some (.ref a0), some (.ref p0), some (.int p1), some (.int p2), none] [] σ Q := by
  refine q_aload_n o_Li_lapsing_0 rfl ?_
  refine q2_getR hs o_Li_lapsing_1 f_Li_41 (kd_Tw_0 hp0) (fz_Tw_2 hs hp0) ?_
  refine q_iload_n o_Li_lapsing_4 rfl ?_
  obtain ⟨k2, eh1, bh1, h1⟩ := h
  refine q2_iald hs o_Li_lapsing_5 (kd_Tw_3 hp0) eh1 bh1 (by decide) ?_
  refine q_iconst (v := 3) o_Li_lapsing_6 (by decide) ?_
  refine q_icmp_eq o_Li_lapsing_7 (fun c3 => ?_) (fun c3 => ?_)
  · have h4 := h1.1 c3
    refine q_iconst (v := 0) o_Li_lapsing_27 (by decide) ?_
    refine q2_ist (ls' := [some (.ref a0), some (.ref p0), some (.int p1), some (.int p2), some (.int 0)]) o_Li_lapsing_28 (Nat.le_of_ble_eq_true rfl) rfl ?_
    refine q_iload o_Li_lapsing_30 rfl ?_
    refine q_if_eq o_Li_lapsing_32 (fun _ => ?_) (fun c5 => absurd c5 (by decide))
    refine q_iconst (v := 0) o_Li_lapsing_49 (by decide) ?_
    exact q_ire o_Li_lapsing_50 rfl h4
  · have h6 := h1.2 c3
    refine q_aload_n o_Li_lapsing_10 rfl ?_
    refine q_aload_n o_Li_lapsing_11 rfl ?_
    refine q2_getR hs o_Li_lapsing_12 f_Li_9 (kd_Li_0 ha0) (fz_Li_0 hs ha0) ?_
    refine q_iload_n o_Li_lapsing_15 rfl ?_
    refine q_iload_n o_Li_lapsing_16 rfl ?_
    refine q2_callVi _ (a := p0) (As := [.ref (a0 + 1), .int p1, .int p2]) (st := []) hs o_Li_lapsing_17 k_Li_44 (kd_Tw_0 hp0) rfl (Nat.le_of_ble_eq_true rfl) h6 (fun x10 σ8 hs9 h7 => ?_)
    have hJ : ∀ vJ : Int32, vJ = (if x10 = 0 then (0 : Int32) else (1 : Int32)) → q_At G X_Li_lapsing (d + 1) 0 0 28 [some (.ref a0), some (.ref p0), some (.int p1), some (.int p2), none] [.int vJ] σ8 Q := by
      intro vJ eJ
      rw [eJ]
      clear eJ vJ
      refine q2_ist (ls' := [some (.ref a0), some (.ref p0), some (.int p1), some (.int p2), some (.int (if x10 = 0 then (0 : Int32) else (1 : Int32)))]) o_Li_lapsing_28 (Nat.le_of_ble_eq_true rfl) rfl ?_
      refine q_iload o_Li_lapsing_30 rfl ?_
      refine q_if_eq o_Li_lapsing_32 (fun c12 => ?_) (fun c12 => ?_)
      · have h13 := h7.1 c12
        refine q_iconst (v := 0) o_Li_lapsing_49 (by decide) ?_
        exact q_ire o_Li_lapsing_50 rfl h13
      · have h14 := h7.2 c12
        refine q_aload_n o_Li_lapsing_35 rfl ?_
        refine q2_getR hs9 o_Li_lapsing_36 f_Li_18 (kd_Li_0 ha0) (fz_Li_2 hs9 ha0) ?_
        refine q_iload_n o_Li_lapsing_39 rfl ?_
        refine q_bipush (v := 6) o_Li_lapsing_40 (by decide) ?_
        refine q_imul o_Li_lapsing_42 ?_
        refine q_iload_n o_Li_lapsing_43 rfl ?_
        refine q_iadd o_Li_lapsing_44 ?_
        obtain ⟨k16, eh15, bh15, h15⟩ := h14
        refine q2_iald hs9 o_Li_lapsing_45 (kd_Li_3 ha0) eh15 bh15 (by decide) ?_
        refine q_goto o_Li_lapsing_46 ?_
        exact q_ire o_Li_lapsing_50 rfl h15
    refine q_if_eq o_Li_lapsing_20 (fun c11 => ?_) (fun c11 => ?_)
    · refine q_iconst (v := 0) o_Li_lapsing_27 (by decide) ?_
      exact hJ _ (Eq.symm (if_pos c11))
    · refine q_iconst (v := 1) o_Li_lapsing_23 (by decide) ?_
      refine q_goto o_Li_lapsing_24 ?_
      exact hJ _ (Eq.symm (if_neg c11))

set_option maxRecDepth 20000 in
theorem v_Li_redraw_0 {G : q_G} {d : Nat} {σ : q_S} {Q : Option Value → q_S → Prop} {a0 : Nat} {p0 : Nat} (ha0 : q_isLi a0) (hp0 : q_isTw p0) (hs : q_Sh σ) (h : q_At G X_Li_redraw (d + 1) 0 0 5 [some (.ref a0), some (.ref p0), some (.ref 12), some (.int 0), some (.int 0), none, none] [] σ Q) : q_At G X_Li_redraw (d + 1) 0 0 0 [some (.ref a0), some (.ref p0), some (.ref 12), none, none, none, none] [] σ Q := by
  refine q_iconst (v := 0) o_Li_redraw_0 (by decide) ?_
  refine q2_istn (ls' := [some (.ref a0), some (.ref p0), some (.ref 12), some (.int 0), none, none, none]) o_Li_redraw_1 (Nat.le_of_ble_eq_true rfl) rfl ?_
  refine q_iconst (v := 0) o_Li_redraw_2 (by decide) ?_
  refine q2_ist (ls' := [some (.ref a0), some (.ref p0), some (.ref 12), some (.int 0), some (.int 0), none, none]) o_Li_redraw_3 (Nat.le_of_ble_eq_true rfl) rfl ?_
  exact h

set_option maxRecDepth 20000 in
theorem v_Li_redraw_5 {G : q_G} {d : Nat} {σ : q_S} {Q : Option Value → q_S → Prop} {a0 : Nat} {p0 : Nat} {l3 : Int32} {l4 : Int32} (hp0 : q_isTw p0) (hs : q_Sh σ) (h : (((q_I σ p0 14) ≤ l4 → q_Call G d 0 0 X_Di_shuffle [.ref 12, .int (q_I σ p0 13)] σ (q_rv (fun σ4 => q_At G X_Li_redraw (d + 1) 0 0 83 [some (.ref a0), some (.ref p0), some (.ref 12), some (.int l3), some (.int 0), none, none] [] σ4 Q))) ∧ (¬ (q_I σ p0 14) ≤ l4 → q_At G X_Li_redraw (d + 1) 0 0 17 [some (.ref a0), some (.ref p0), some (.ref 12), some (.int l3), some (.int l4), some (.int 0), none] [] σ Q))) : q_At G X_Li_redraw (d + 1) 0 0 5 [some (.ref a0), some (.ref p0), some (.ref 12), some (.int l3), some (.int l4), none, none] [] σ Q := by
  refine q_iload o_Li_redraw_5 rfl ?_
  refine q_aload_n o_Li_redraw_7 rfl ?_
  refine q2_getI hs o_Li_redraw_8 f_Li_21 (kd_Tw_0 hp0) ?_
  refine q_icmp_ge o_Li_redraw_11 (fun c1 => ?_) (fun c1 => ?_)
  · have h2 := h.1 c1
    refine q_aload_n o_Li_redraw_72 rfl ?_
    refine q_aload_n o_Li_redraw_73 rfl ?_
    refine q2_getI hs o_Li_redraw_74 f_Li_52 (kd_Tw_0 hp0) ?_
    refine q2_callVv _ (a := 12) (As := [.int (q_I σ p0 13)]) (st := []) hs o_Li_redraw_77 k_Li_55 rfl rfl (Nat.le_of_ble_eq_true rfl) h2 (fun σ4 hs5 h3 => ?_)
    refine q_iconst (v := 0) o_Li_redraw_80 (by decide) ?_
    refine q2_ist (ls' := [some (.ref a0), some (.ref p0), some (.ref 12), some (.int l3), some (.int 0), none, none]) o_Li_redraw_81 (Nat.le_of_ble_eq_true rfl) rfl ?_
    exact h3
  · have h6 := h.2 c1
    refine q_iconst (v := 0) o_Li_redraw_14 (by decide) ?_
    refine q2_ist (ls' := [some (.ref a0), some (.ref p0), some (.ref 12), some (.int l3), some (.int l4), some (.int 0), none]) o_Li_redraw_15 (Nat.le_of_ble_eq_true rfl) rfl ?_
    exact h6

set_option maxRecDepth 20000 in
theorem v_Li_redraw_17 {G : q_G} {d : Nat} {σ : q_S} {Q : Option Value → q_S → Prop} {a0 : Nat} {p0 : Nat} {l3 : Int32} {l4 : Int32} {l5 : Int32} (ha0 : q_isLi a0) (hp0 : q_isTw p0) (hs : q_Sh σ) (h : (((q_I σ p0 14) ≤ l5 → q_At G X_Li_redraw (d + 1) 0 0 5 [some (.ref a0), some (.ref p0), some (.ref 12), some (.int l3), some (.int (l4 + 1)), none, none] [] σ Q) ∧ (¬ (q_I σ p0 14) ≤ l5 → q_Call G d 0 0 X_Li_lapsing [.ref a0, .ref p0, .int l4, .int l5] σ (q_ri (fun x7 σ5 => (∃ k9, ((l4 * 6) + l5) = nI k9 ∧ k9 < 36 ∧ (∃ k11, ((l4 * 6) + l5) = nI k11 ∧ k11 < 36 ∧ q_At G X_Li_redraw (d + 1) 0 0 17 [some (.ref a0), some (.ref p0), some (.ref 12), some (.int (l3 + x7)), some (.int l4), some (.int (l5 + 1)), none] [] (q_setI σ5 (a0 + 3) k11 ((q_I σ5 (a0 + 3) k9) - x7)) Q))))))) : q_At G X_Li_redraw (d + 1) 0 0 17 [some (.ref a0), some (.ref p0), some (.ref 12), some (.int l3), some (.int l4), some (.int l5), none] [] σ Q := by
  refine q_iload o_Li_redraw_17 rfl ?_
  refine q_aload_n o_Li_redraw_19 rfl ?_
  refine q2_getI hs o_Li_redraw_20 f_Li_21 (kd_Tw_0 hp0) ?_
  refine q_icmp_ge o_Li_redraw_23 (fun c1 => ?_) (fun c1 => ?_)
  · have h2 := h.1 c1
    refine q2_inc (v := (l4 + 1)) (ls' := [some (.ref a0), some (.ref p0), some (.ref 12), some (.int l3), some (.int (l4 + 1)), some (.int l5), none]) o_Li_redraw_66 rfl rfl (Nat.le_of_ble_eq_true rfl) rfl ?_
    refine q_goto o_Li_redraw_69 ?_
    exact q_weak (ls' := [some (.ref a0), some (.ref p0), some (.ref 12), some (.int l3), some (.int (l4 + 1)), none, none]) (And.intro rfl (And.intro rfl (And.intro rfl (And.intro rfl (And.intro rfl trivial))))) h2
  · have h3 := h.2 c1
    refine q_aload_n o_Li_redraw_26 rfl ?_
    refine q_aload_n o_Li_redraw_27 rfl ?_
    refine q_iload o_Li_redraw_28 rfl ?_
    refine q_iload o_Li_redraw_30 rfl ?_
    refine q2_callVi _ (a := a0) (As := [.ref p0, .int l4, .int l5]) (st := []) hs o_Li_redraw_32 k_Li_48 (kd_Li_0 ha0) rfl (Nat.le_of_ble_eq_true rfl) h3 (fun x7 σ5 hs6 h4 => ?_)
    refine q2_ist (ls' := [some (.ref a0), some (.ref p0), some (.ref 12), some (.int l3), some (.int l4), some (.int l5), some (.int x7)]) o_Li_redraw_35 (Nat.le_of_ble_eq_true rfl) rfl ?_
    refine q_aload_n o_Li_redraw_37 rfl ?_
    refine q2_getR hs6 o_Li_redraw_38 f_Li_18 (kd_Li_0 ha0) (fz_Li_2 hs6 ha0) ?_
    refine q_iload o_Li_redraw_41 rfl ?_
    refine q_bipush (v := 6) o_Li_redraw_43 (by decide) ?_
    refine q_imul o_Li_redraw_45 ?_
    refine q_iload o_Li_redraw_46 rfl ?_
    refine q_iadd o_Li_redraw_48 ?_
    refine q_dup2 o_Li_redraw_49 rfl rfl ?_
    obtain ⟨k9, eh8, bh8, h8⟩ := h4
    refine q2_iald hs6 o_Li_redraw_50 (kd_Li_3 ha0) eh8 bh8 (by decide) ?_
    refine q_iload o_Li_redraw_51 rfl ?_
    refine q_isub o_Li_redraw_53 ?_
    obtain ⟨k11, eh10, bh10, h10⟩ := h8
    refine q2_iast hs6 o_Li_redraw_54 (kd_Li_3 ha0) eh10 bh10 (by decide) ?_
    refine q_iload_n o_Li_redraw_55 rfl ?_
    refine q_iload o_Li_redraw_56 rfl ?_
    refine q_iadd o_Li_redraw_58 ?_
    refine q2_istn (ls' := [some (.ref a0), some (.ref p0), some (.ref 12), some (.int (l3 + x7)), some (.int l4), some (.int l5), some (.int x7)]) o_Li_redraw_59 (Nat.le_of_ble_eq_true rfl) rfl ?_
    refine q2_inc (v := (l5 + 1)) (ls' := [some (.ref a0), some (.ref p0), some (.ref 12), some (.int (l3 + x7)), some (.int l4), some (.int (l5 + 1)), some (.int x7)]) o_Li_redraw_60 rfl rfl (Nat.le_of_ble_eq_true rfl) rfl ?_
    refine q_goto o_Li_redraw_63 ?_
    exact q_weak (ls' := [some (.ref a0), some (.ref p0), some (.ref 12), some (.int (l3 + x7)), some (.int l4), some (.int (l5 + 1)), none]) (And.intro rfl (And.intro rfl (And.intro rfl (And.intro rfl (And.intro rfl (And.intro rfl trivial)))))) h10

set_option maxRecDepth 20000 in
theorem v_Li_redraw_83 {G : q_G} {d : Nat} {σ : q_S} {Q : Option Value → q_S → Prop} {a0 : Nat} {p0 : Nat} {l3 : Int32} {l4 : Int32} (ha0 : q_isLi a0) (hp0 : q_isTw p0) (hs : q_Sh σ) (h : (((q_I σ p0 14) ≤ l4 → Q (some (.int l3)) (q_setI (q_setI σ a0 3 ((q_I σ a0 3) + 1)) a0 4 ((q_I (q_setI σ a0 3 ((q_I σ a0 3) + 1)) a0 4) + l3))) ∧ (¬ (q_I σ p0 14) ≤ l4 → (∃ k5, l4 = nI k5 ∧ k5 < 6 ∧ (∃ k7, l4 = nI k7 ∧ k7 < 6 ∧ q_At G X_Li_redraw (d + 1) 0 0 83 [some (.ref a0), some (.ref p0), some (.ref 12), some (.int l3), some (.int (l4 + 1)), none, none] [] (q_setI σ (a0 + 1) k7 (q_I σ 13 k5)) Q))))) : q_At G X_Li_redraw (d + 1) 0 0 83 [some (.ref a0), some (.ref p0), some (.ref 12), some (.int l3), some (.int l4), none, none] [] σ Q := by
  refine q_iload o_Li_redraw_83 rfl ?_
  refine q_aload_n o_Li_redraw_85 rfl ?_
  refine q2_getI hs o_Li_redraw_86 f_Li_21 (kd_Tw_0 hp0) ?_
  refine q_icmp_ge o_Li_redraw_89 (fun c1 => ?_) (fun c1 => ?_)
  · have h2 := h.1 c1
    refine q_aload_n o_Li_redraw_112 rfl ?_
    refine q_dup o_Li_redraw_113 rfl ?_
    refine q2_getI hs o_Li_redraw_114 f_Li_35 (kd_Li_0 ha0) ?_
    refine q_iconst (v := 1) o_Li_redraw_117 (by decide) ?_
    refine q_iadd o_Li_redraw_118 ?_
    refine q2_putI hs o_Li_redraw_119 fp_Li_35 (kd_Li_0 ha0) rfl rfl ?_
    refine q_aload_n o_Li_redraw_122 rfl ?_
    refine q_dup o_Li_redraw_123 rfl ?_
    refine q2_getI hs o_Li_redraw_124 f_Li_38 (kd_Li_0 ha0) ?_
    refine q_iload_n o_Li_redraw_127 rfl ?_
    refine q_iadd o_Li_redraw_128 ?_
    refine q2_putI hs o_Li_redraw_129 fp_Li_38 (kd_Li_0 ha0) rfl rfl ?_
    refine q_iload_n o_Li_redraw_132 rfl ?_
    exact q_ire o_Li_redraw_133 rfl h2
  · have h3 := h.2 c1
    refine q_aload_n o_Li_redraw_92 rfl ?_
    refine q2_getR hs o_Li_redraw_93 f_Li_9 (kd_Li_0 ha0) (fz_Li_0 hs ha0) ?_
    refine q_iload o_Li_redraw_96 rfl ?_
    refine q_aload_n o_Li_redraw_98 rfl ?_
    refine q2_getR hs o_Li_redraw_99 f_Li_61 rfl (fz_12_0 hs) ?_
    refine q_iload o_Li_redraw_102 rfl ?_
    obtain ⟨k5, eh4, bh4, h4⟩ := h3
    refine q2_iald hs o_Li_redraw_104 rfl eh4 bh4 (by decide) ?_
    obtain ⟨k7, eh6, bh6, h6⟩ := h4
    refine q2_iast hs o_Li_redraw_105 (kd_Li_1 ha0) eh6 bh6 (by decide) ?_
    refine q2_inc (v := (l4 + 1)) (ls' := [some (.ref a0), some (.ref p0), some (.ref 12), some (.int l3), some (.int (l4 + 1)), none, none]) o_Li_redraw_106 rfl rfl (Nat.le_of_ble_eq_true rfl) rfl ?_
    refine q_goto o_Li_redraw_109 ?_
    exact h6

set_option maxRecDepth 20000 in
theorem v_Li_changeHouses_0 {G : q_G} {d : Nat} {σ : q_S} {Q : Option Value → q_S → Prop} {a0 : Nat} {p0 : Int32} {p1 : Int32} (ha0 : q_isLi a0) (hs : q_Sh σ) (h : (∃ k2, p0 = nI k2 ∧ k2 < 6 ∧ (∃ k4, p1 = nI k4 ∧ k4 < 6 ∧ (∃ k6, p0 = nI k6 ∧ k6 < 6 ∧ (∃ k8, p1 = nI k8 ∧ k8 < 6 ∧ Q none (q_setI (q_setI σ (a0 + 1) k6 (q_I σ (a0 + 1) k4)) (a0 + 1) k8 (q_I σ (a0 + 1) k2))))))) : q_At G X_Li_changeHouses d 0 0 0 [some (.ref a0), some (.int p0), some (.int p1), none] [] σ Q := by
  refine q_aload_n o_Li_changeHouses_0 rfl ?_
  refine q2_getR hs o_Li_changeHouses_1 f_Li_9 (kd_Li_0 ha0) (fz_Li_0 hs ha0) ?_
  refine q_iload_n o_Li_changeHouses_4 rfl ?_
  obtain ⟨k2, eh1, bh1, h1⟩ := h
  refine q2_iald hs o_Li_changeHouses_5 (kd_Li_1 ha0) eh1 bh1 (by decide) ?_
  refine q2_istn (ls' := [some (.ref a0), some (.int p0), some (.int p1), some (.int (q_I σ (a0 + 1) k2))]) o_Li_changeHouses_6 (Nat.le_of_ble_eq_true rfl) rfl ?_
  refine q_aload_n o_Li_changeHouses_7 rfl ?_
  refine q2_getR hs o_Li_changeHouses_8 f_Li_9 (kd_Li_0 ha0) (fz_Li_0 hs ha0) ?_
  refine q_iload_n o_Li_changeHouses_11 rfl ?_
  refine q_aload_n o_Li_changeHouses_12 rfl ?_
  refine q2_getR hs o_Li_changeHouses_13 f_Li_9 (kd_Li_0 ha0) (fz_Li_0 hs ha0) ?_
  refine q_iload_n o_Li_changeHouses_16 rfl ?_
  obtain ⟨k4, eh3, bh3, h3⟩ := h1
  refine q2_iald hs o_Li_changeHouses_17 (kd_Li_1 ha0) eh3 bh3 (by decide) ?_
  obtain ⟨k6, eh5, bh5, h5⟩ := h3
  refine q2_iast hs o_Li_changeHouses_18 (kd_Li_1 ha0) eh5 bh5 (by decide) ?_
  refine q_aload_n o_Li_changeHouses_19 rfl ?_
  refine q2_getR hs o_Li_changeHouses_20 f_Li_9 (kd_Li_0 ha0) (fz_Li_0 hs ha0) ?_
  refine q_iload_n o_Li_changeHouses_23 rfl ?_
  refine q_iload_n o_Li_changeHouses_24 rfl ?_
  obtain ⟨k8, eh7, bh7, h7⟩ := h5
  refine q2_iast hs o_Li_changeHouses_25 (kd_Li_1 ha0) eh7 bh7 (by decide) ?_
  exact q_vre o_Li_changeHouses_26 rfl h7

set_option maxRecDepth 20000 in
theorem v_Li_canLend_0 {G : q_G} {d : Nat} {σ : q_S} {Q : Option Value → q_S → Prop} {a0 : Nat} {p0 : Nat} {p1 : Int32} {p2 : Int32} {p3 : Int32} (ha0 : q_isLi a0) (hp0 : q_isTw p0) (hs : q_Sh σ) (h : (∃ k2, p1 = nI k2 ∧ k2 < 6 ∧ (((q_I σ (a0 + 2) k2) < p3 → Q (some (.int 0)) σ) ∧ (¬ (q_I σ (a0 + 2) k2) < p3 → q_Call G d 0 0 X_Tw_areNeighbours [.ref p0, .ref (a0 + 1), .int p1, .int p2] σ (q_ri (fun x9 σ7 => (narrow .boolean (.int (if x9 = 0 then (0 : Int32) else (1 : Int32))) = .int (if x9 = 0 then (0 : Int32) else (1 : Int32)) ∧ Q (some (.int (if x9 = 0 then (0 : Int32) else (1 : Int32)))) σ7))))))) : q_At G X_Li_canLend (d + 1) 0 0 0 [some (.ref a0), some (.ref p0), some (.int p1), some (.int p2), some (.int p3)] [] σ Q := by
  refine q_aload_n o_Li_canLend_0 rfl ?_
  refine q2_getR hs o_Li_canLend_1 f_Li_15 (kd_Li_0 ha0) (fz_Li_1 hs ha0) ?_
  refine q_iload_n o_Li_canLend_4 rfl ?_
  obtain ⟨k2, eh1, bh1, h1⟩ := h
  refine q2_iald hs o_Li_canLend_5 (kd_Li_2 ha0) eh1 bh1 (by decide) ?_
  refine q_iload o_Li_canLend_6 rfl ?_
  refine q_icmp_lt o_Li_canLend_8 (fun c3 => ?_) (fun c3 => ?_)
  · have h4 := h1.1 c3
    refine q_iconst (v := 0) o_Li_canLend_28 (by decide) ?_
    exact q_zre o_Li_canLend_29 rfl rfl h4
  · have h5 := h1.2 c3
    refine q_aload_n o_Li_canLend_11 rfl ?_
    refine q_aload_n o_Li_canLend_12 rfl ?_
    refine q2_getR hs o_Li_canLend_13 f_Li_9 (kd_Li_0 ha0) (fz_Li_0 hs ha0) ?_
    refine q_iload_n o_Li_canLend_16 rfl ?_
    refine q_iload_n o_Li_canLend_17 rfl ?_
    refine q2_callVi _ (a := p0) (As := [.ref (a0 + 1), .int p1, .int p2]) (st := []) hs o_Li_canLend_18 k_Li_44 (kd_Tw_0 hp0) rfl (Nat.le_of_ble_eq_true rfl) h5 (fun x9 σ7 hs8 h6 => ?_)
    have hJ : ∀ vJ : Int32, vJ = (if x9 = 0 then (0 : Int32) else (1 : Int32)) → q_At G X_Li_canLend (d + 1) 0 0 29 [some (.ref a0), some (.ref p0), some (.int p1), some (.int p2), some (.int p3)] [.int vJ] σ7 Q := by
      intro vJ eJ
      rw [eJ]
      clear eJ vJ
      exact q_zre o_Li_canLend_29 rfl h6.1 h6.2
    refine q_if_eq o_Li_canLend_21 (fun c10 => ?_) (fun c10 => ?_)
    · refine q_iconst (v := 0) o_Li_canLend_28 (by decide) ?_
      exact hJ _ (Eq.symm (if_pos c10))
    · refine q_iconst (v := 1) o_Li_canLend_24 (by decide) ?_
      refine q_goto o_Li_canLend_25 ?_
      exact hJ _ (Eq.symm (if_neg c10))

set_option maxRecDepth 20000 in
theorem v_Li_giveLoan_0 {G : q_G} {d : Nat} {σ : q_S} {Q : Option Value → q_S → Prop} {a0 : Nat} {p0 : Int32} {p1 : Int32} {p2 : Int32} (ha0 : q_isLi a0) (hs : q_Sh σ) (h : (∃ k2, p0 = nI k2 ∧ k2 < 6 ∧ (∃ k4, p0 = nI k4 ∧ k4 < 6 ∧ (∃ k6, p1 = nI k6 ∧ k6 < 6 ∧ (∃ k8, p1 = nI k8 ∧ k8 < 6 ∧ (∃ k10, ((p1 * 6) + p0) = nI k10 ∧ k10 < 36 ∧ (∃ k12, ((p1 * 6) + p0) = nI k12 ∧ k12 < 36 ∧ Q none (q_setI (q_setI (q_setI σ (a0 + 2) k4 ((q_I σ (a0 + 2) k2) - p2)) (a0 + 2) k8 ((q_I (q_setI σ (a0 + 2) k4 ((q_I σ (a0 + 2) k2) - p2)) (a0 + 2) k6) + p2)) (a0 + 3) k12 ((q_I (q_setI (q_setI σ (a0 + 2) k4 ((q_I σ (a0 + 2) k2) - p2)) (a0 + 2) k8 ((q_I (q_setI σ (a0 + 2) k4 ((q_I σ (a0 + 2) k2) - p2)) (a0 + 2) k6) + p2)) (a0 + 3) k10) + p2))))))))) : q_At G X_Li_giveLoan d 0 0 0 [some (.ref a0), some (.int p0), some (.int p1), some (.int p2)] [] σ Q := by
  refine q_aload_n o_Li_giveLoan_0 rfl ?_
  refine q2_getR hs o_Li_giveLoan_1 f_Li_15 (kd_Li_0 ha0) (fz_Li_1 hs ha0) ?_
  refine q_iload_n o_Li_giveLoan_4 rfl ?_
  refine q_dup2 o_Li_giveLoan_5 rfl rfl ?_
  obtain ⟨k2, eh1, bh1, h1⟩ := h
  refine q2_iald hs o_Li_giveLoan_6 (kd_Li_2 ha0) eh1 bh1 (by decide) ?_
  refine q_iload_n o_Li_giveLoan_7 rfl ?_
  refine q_isub o_Li_giveLoan_8 ?_
  obtain ⟨k4, eh3, bh3, h3⟩ := h1
  refine q2_iast hs o_Li_giveLoan_9 (kd_Li_2 ha0) eh3 bh3 (by decide) ?_
  refine q_aload_n o_Li_giveLoan_10 rfl ?_
  refine q2_getR hs o_Li_giveLoan_11 f_Li_15 (kd_Li_0 ha0) (fz_Li_1 hs ha0) ?_
  refine q_iload_n o_Li_giveLoan_14 rfl ?_
  refine q_dup2 o_Li_giveLoan_15 rfl rfl ?_
  obtain ⟨k6, eh5, bh5, h5⟩ := h3
  refine q2_iald hs o_Li_giveLoan_16 (kd_Li_2 ha0) eh5 bh5 (by decide) ?_
  refine q_iload_n o_Li_giveLoan_17 rfl ?_
  refine q_iadd o_Li_giveLoan_18 ?_
  obtain ⟨k8, eh7, bh7, h7⟩ := h5
  refine q2_iast hs o_Li_giveLoan_19 (kd_Li_2 ha0) eh7 bh7 (by decide) ?_
  refine q_aload_n o_Li_giveLoan_20 rfl ?_
  refine q2_getR hs o_Li_giveLoan_21 f_Li_18 (kd_Li_0 ha0) (fz_Li_2 hs ha0) ?_
  refine q_iload_n o_Li_giveLoan_24 rfl ?_
  refine q_bipush (v := 6) o_Li_giveLoan_25 (by decide) ?_
  refine q_imul o_Li_giveLoan_27 ?_
  refine q_iload_n o_Li_giveLoan_28 rfl ?_
  refine q_iadd o_Li_giveLoan_29 ?_
  refine q_dup2 o_Li_giveLoan_30 rfl rfl ?_
  obtain ⟨k10, eh9, bh9, h9⟩ := h7
  refine q2_iald hs o_Li_giveLoan_31 (kd_Li_3 ha0) eh9 bh9 (by decide) ?_
  refine q_iload_n o_Li_giveLoan_32 rfl ?_
  refine q_iadd o_Li_giveLoan_33 ?_
  obtain ⟨k12, eh11, bh11, h11⟩ := h9
  refine q2_iast hs o_Li_giveLoan_34 (kd_Li_3 ha0) eh11 bh11 (by decide) ?_
  exact q_vre o_Li_giveLoan_35 rfl h11

set_option maxRecDepth 20000 in
theorem v_Li_canPay_0 {G : q_G} {d : Nat} {σ : q_S} {Q : Option Value → q_S → Prop} {a0 : Nat} {p0 : Int32} {p1 : Int32} {p2 : Int32} (ha0 : q_isLi a0) (hs : q_Sh σ) (h : (∃ k2, p0 = nI k2 ∧ k2 < 6 ∧ (((q_I σ (a0 + 2) k2) < p2 → Q (some (.int 0)) σ) ∧ (¬ (q_I σ (a0 + 2) k2) < p2 → (∃ k7, ((p0 * 6) + p1) = nI k7 ∧ k7 < 36 ∧ (narrow .boolean (.int (if (q_I σ (a0 + 3) k7) < p2 then (0 : Int32) else (1 : Int32))) = .int (if (q_I σ (a0 + 3) k7) < p2 then (0 : Int32) else (1 : Int32)) ∧ Q (some (.int (if (q_I σ (a0 + 3) k7) < p2 then (0 : Int32) else (1 : Int32)))) σ)))))) : q_At G X_Li_canPay d 0 0 0 [some (.ref a0), some (.int p0), some (.int p1), some (.int p2)] [] σ Q := by
  refine q_aload_n o_Li_canPay_0 rfl ?_
  refine q2_getR hs o_Li_canPay_1 f_Li_15 (kd_Li_0 ha0) (fz_Li_1 hs ha0) ?_
  refine q_iload_n o_Li_canPay_4 rfl ?_
  obtain ⟨k2, eh1, bh1, h1⟩ := h
  refine q2_iald hs o_Li_canPay_5 (kd_Li_2 ha0) eh1 bh1 (by decide) ?_
  refine q_iload_n o_Li_canPay_6 rfl ?_
  refine q_icmp_lt o_Li_canPay_7 (fun c3 => ?_) (fun c3 => ?_)
  · have h4 := h1.1 c3
    refine q_iconst (v := 0) o_Li_canPay_29 (by decide) ?_
    exact q_zre o_Li_canPay_30 rfl rfl h4
  · have h5 := h1.2 c3
    refine q_aload_n o_Li_canPay_10 rfl ?_
    refine q2_getR hs o_Li_canPay_11 f_Li_18 (kd_Li_0 ha0) (fz_Li_2 hs ha0) ?_
    refine q_iload_n o_Li_canPay_14 rfl ?_
    refine q_bipush (v := 6) o_Li_canPay_15 (by decide) ?_
    refine q_imul o_Li_canPay_17 ?_
    refine q_iload_n o_Li_canPay_18 rfl ?_
    refine q_iadd o_Li_canPay_19 ?_
    obtain ⟨k7, eh6, bh6, h6⟩ := h5
    refine q2_iald hs o_Li_canPay_20 (kd_Li_3 ha0) eh6 bh6 (by decide) ?_
    refine q_iload_n o_Li_canPay_21 rfl ?_
    have hJ : ∀ vJ : Int32, vJ = (if (q_I σ (a0 + 3) k7) < p2 then (0 : Int32) else (1 : Int32)) → q_At G X_Li_canPay d 0 0 30 [some (.ref a0), some (.int p0), some (.int p1), some (.int p2)] [.int vJ] σ Q := by
      intro vJ eJ
      rw [eJ]
      clear eJ vJ
      exact q_zre o_Li_canPay_30 rfl h6.1 h6.2
    refine q_icmp_lt o_Li_canPay_22 (fun c8 => ?_) (fun c8 => ?_)
    · refine q_iconst (v := 0) o_Li_canPay_29 (by decide) ?_
      exact hJ _ (Eq.symm (if_pos c8))
    · refine q_iconst (v := 1) o_Li_canPay_25 (by decide) ?_
      refine q_goto o_Li_canPay_26 ?_
      exact hJ _ (Eq.symm (if_neg c8))

set_option maxRecDepth 20000 in
theorem v_Li_payBack_0 {G : q_G} {d : Nat} {σ : q_S} {Q : Option Value → q_S → Prop} {a0 : Nat} {p0 : Int32} {p1 : Int32} {p2 : Int32} (ha0 : q_isLi a0) (hs : q_Sh σ) (h : (∃ k2, p0 = nI k2 ∧ k2 < 6 ∧ (∃ k4, p0 = nI k4 ∧ k4 < 6 ∧ (∃ k6, p1 = nI k6 ∧ k6 < 6 ∧ (∃ k8, p1 = nI k8 ∧ k8 < 6 ∧ (∃ k10, ((p0 * 6) + p1) = nI k10 ∧ k10 < 36 ∧ (∃ k12, ((p0 * 6) + p1) = nI k12 ∧ k12 < 36 ∧ Q none (q_setI (q_setI (q_setI σ (a0 + 2) k4 ((q_I σ (a0 + 2) k2) - p2)) (a0 + 2) k8 ((q_I (q_setI σ (a0 + 2) k4 ((q_I σ (a0 + 2) k2) - p2)) (a0 + 2) k6) + p2)) (a0 + 3) k12 ((q_I (q_setI (q_setI σ (a0 + 2) k4 ((q_I σ (a0 + 2) k2) - p2)) (a0 + 2) k8 ((q_I (q_setI σ (a0 + 2) k4 ((q_I σ (a0 + 2) k2) - p2)) (a0 + 2) k6) + p2)) (a0 + 3) k10) - p2))))))))) : q_At G X_Li_payBack d 0 0 0 [some (.ref a0), some (.int p0), some (.int p1), some (.int p2)] [] σ Q := by
  refine q_aload_n o_Li_payBack_0 rfl ?_
  refine q2_getR hs o_Li_payBack_1 f_Li_15 (kd_Li_0 ha0) (fz_Li_1 hs ha0) ?_
  refine q_iload_n o_Li_payBack_4 rfl ?_
  refine q_dup2 o_Li_payBack_5 rfl rfl ?_
  obtain ⟨k2, eh1, bh1, h1⟩ := h
  refine q2_iald hs o_Li_payBack_6 (kd_Li_2 ha0) eh1 bh1 (by decide) ?_
  refine q_iload_n o_Li_payBack_7 rfl ?_
  refine q_isub o_Li_payBack_8 ?_
  obtain ⟨k4, eh3, bh3, h3⟩ := h1
  refine q2_iast hs o_Li_payBack_9 (kd_Li_2 ha0) eh3 bh3 (by decide) ?_
  refine q_aload_n o_Li_payBack_10 rfl ?_
  refine q2_getR hs o_Li_payBack_11 f_Li_15 (kd_Li_0 ha0) (fz_Li_1 hs ha0) ?_
  refine q_iload_n o_Li_payBack_14 rfl ?_
  refine q_dup2 o_Li_payBack_15 rfl rfl ?_
  obtain ⟨k6, eh5, bh5, h5⟩ := h3
  refine q2_iald hs o_Li_payBack_16 (kd_Li_2 ha0) eh5 bh5 (by decide) ?_
  refine q_iload_n o_Li_payBack_17 rfl ?_
  refine q_iadd o_Li_payBack_18 ?_
  obtain ⟨k8, eh7, bh7, h7⟩ := h5
  refine q2_iast hs o_Li_payBack_19 (kd_Li_2 ha0) eh7 bh7 (by decide) ?_
  refine q_aload_n o_Li_payBack_20 rfl ?_
  refine q2_getR hs o_Li_payBack_21 f_Li_18 (kd_Li_0 ha0) (fz_Li_2 hs ha0) ?_
  refine q_iload_n o_Li_payBack_24 rfl ?_
  refine q_bipush (v := 6) o_Li_payBack_25 (by decide) ?_
  refine q_imul o_Li_payBack_27 ?_
  refine q_iload_n o_Li_payBack_28 rfl ?_
  refine q_iadd o_Li_payBack_29 ?_
  refine q_dup2 o_Li_payBack_30 rfl rfl ?_
  obtain ⟨k10, eh9, bh9, h9⟩ := h7
  refine q2_iald hs o_Li_payBack_31 (kd_Li_3 ha0) eh9 bh9 (by decide) ?_
  refine q_iload_n o_Li_payBack_32 rfl ?_
  refine q_isub o_Li_payBack_33 ?_
  obtain ⟨k12, eh11, bh11, h11⟩ := h9
  refine q2_iast hs o_Li_payBack_34 (kd_Li_3 ha0) eh11 bh11 (by decide) ?_
  exact q_vre o_Li_payBack_35 rfl h11

set_option maxRecDepth 20000 in
theorem v_Li_liveOn_0 {G : q_G} {d : Nat} {σ : q_S} {Q : Option Value → q_S → Prop} {a0 : Nat} {p0 : Nat} (ha0 : q_isLi a0) (hp0 : q_isTw p0) (hs : q_Sh σ) (h : ((2 ≤ (q_I σ p0 14) → q_Call G d 0 0 X_Di_below [.ref 12, .int (q_I σ p0 14)] σ (q_ri (fun x6 σ4 => q_Call G d 0 0 X_Di_below [.ref 12, .int (q_I σ p0 14)] σ4 (q_ri (fun x10 σ8 => ((x6 = x10 → q_Call G d 0 0 X_Di_below [.ref 12, .int 10] σ8 (q_ri (fun x16 σ14 => ((¬ x16 = 0 → Q none σ14) ∧ (x16 = 0 → q_Call G d 0 0 X_Di_below [.ref 12, .int (q_I σ p0 14)] σ14 (q_ri (fun x23 σ21 => q_Call G d 0 0 X_Di_below [.ref 12, .int (q_I σ p0 14)] σ21 (q_ri (fun x27 σ25 => q_Call G d 0 0 X_Li_changeHouses [.ref a0, .int x23, .int x27] σ25 (q_rv (fun σ29 => Q none σ29))))))))))) ∧ (¬ x6 = x10 → q_Call G d 0 0 X_Li_canLend [.ref a0, .ref p0, .int x6, .int x10, .int 1] σ8 (q_ri (fun x35 σ33 => ((x35 = 0 → q_Call G d 0 0 X_Di_below [.ref 12, .int 10] σ33 (q_ri (fun x41 σ39 => ((¬ x41 = 0 → Q none σ39) ∧ (x41 = 0 → q_Call G d 0 0 X_Di_below [.ref 12, .int (q_I σ p0 14)] σ39 (q_ri (fun x48 σ46 => q_Call G d 0 0 X_Di_below [.ref 12, .int (q_I σ p0 14)] σ46 (q_ri (fun x52 σ50 => q_Call G d 0 0 X_Li_changeHouses [.ref a0, .int x48, .int x52] σ50 (q_rv (fun σ54 => Q none σ54))))))))))) ∧ (¬ x35 = 0 → q_Call G d 0 0 X_Li_giveLoan [.ref a0, .int x6, .int x10, .int 1] σ33 (q_rv (fun σ58 => q_Call G d 0 0 X_Di_below [.ref 12, .int 10] σ58 (q_ri (fun x63 σ61 => ((¬ x63 = 0 → Q none σ61) ∧ (x63 = 0 → q_Call G d 0 0 X_Di_below [.ref 12, .int (q_I σ p0 14)] σ61 (q_ri (fun x70 σ68 => q_Call G d 0 0 X_Di_below [.ref 12, .int (q_I σ p0 14)] σ68 (q_ri (fun x74 σ72 => q_Call G d 0 0 X_Li_changeHouses [.ref a0, .int x70, .int x74] σ72 (q_rv (fun σ76 => Q none σ76))))))))))))))))))))))) ∧ (¬ 2 ≤ (q_I σ p0 14) → Q none σ))) : q_At G X_Li_liveOn (d + 1) 0 0 0 [some (.ref a0), some (.ref p0), some (.ref 12), none, none, none, none, none] [] σ Q := by
  refine q_aload_n o_Li_liveOn_0 rfl ?_
  refine q2_getI hs o_Li_liveOn_1 f_Li_21 (kd_Tw_0 hp0) ?_
  refine q2_istn (ls' := [some (.ref a0), some (.ref p0), some (.ref 12), some (.int (q_I σ p0 14)), none, none, none, none]) o_Li_liveOn_4 (Nat.le_of_ble_eq_true rfl) rfl ?_
  refine q_iload_n o_Li_liveOn_5 rfl ?_
  refine q_iconst (v := 2) o_Li_liveOn_6 (by decide) ?_
  refine q_icmp_ge o_Li_liveOn_7 (fun c1 => ?_) (fun c1 => ?_)
  · have h2 := h.1 c1
    refine q_aload_n o_Li_liveOn_11 rfl ?_
    refine q_iload_n o_Li_liveOn_12 rfl ?_
    refine q2_callVi _ (a := 12) (As := [.int (q_I σ p0 14)]) (st := []) hs o_Li_liveOn_13 k_Li_64 rfl rfl (Nat.le_of_ble_eq_true rfl) h2 (fun x6 σ4 hs5 h3 => ?_)
    refine q2_ist (ls' := [some (.ref a0), some (.ref p0), some (.ref 12), some (.int (q_I σ p0 14)), some (.int x6), none, none, none]) o_Li_liveOn_16 (Nat.le_of_ble_eq_true rfl) rfl ?_
    refine q_aload_n o_Li_liveOn_18 rfl ?_
    refine q_iload_n o_Li_liveOn_19 rfl ?_
    refine q2_callVi _ (a := 12) (As := [.int (q_I σ p0 14)]) (st := []) hs5 o_Li_liveOn_20 k_Li_64 rfl rfl (Nat.le_of_ble_eq_true rfl) h3 (fun x10 σ8 hs9 h7 => ?_)
    refine q2_ist (ls' := [some (.ref a0), some (.ref p0), some (.ref 12), some (.int (q_I σ p0 14)), some (.int x6), some (.int x10), none, none]) o_Li_liveOn_23 (Nat.le_of_ble_eq_true rfl) rfl ?_
    refine q_iload o_Li_liveOn_25 rfl ?_
    refine q_iload o_Li_liveOn_27 rfl ?_
    refine q_icmp_eq o_Li_liveOn_29 (fun c11 => ?_) (fun c11 => ?_)
    · have h12 := h7.1 c11
      refine q_aload_n o_Li_liveOn_54 rfl ?_
      refine q_bipush (v := 10) o_Li_liveOn_55 (by decide) ?_
      refine q2_callVi _ (a := 12) (As := [.int 10]) (st := []) hs9 o_Li_liveOn_57 k_Li_64 rfl rfl (Nat.le_of_ble_eq_true rfl) h12 (fun x16 σ14 hs15 h13 => ?_)
      refine q_if_ne o_Li_liveOn_60 (fun c17 => ?_) (fun c17 => ?_)
      · have h18 := h13.1 c17
        exact q_vre o_Li_liveOn_85 rfl h18
      · have h19 := h13.2 c17
        refine q_aload_n o_Li_liveOn_63 rfl ?_
        refine q_iload_n o_Li_liveOn_64 rfl ?_
        refine q2_callVi _ (a := 12) (As := [.int (q_I σ p0 14)]) (st := []) hs15 o_Li_liveOn_65 k_Li_64 rfl rfl (Nat.le_of_ble_eq_true rfl) h19 (fun x23 σ21 hs22 h20 => ?_)
        refine q2_ist (ls' := [some (.ref a0), some (.ref p0), some (.ref 12), some (.int (q_I σ p0 14)), some (.int x6), some (.int x10), some (.int x23), none]) o_Li_liveOn_68 (Nat.le_of_ble_eq_true rfl) rfl ?_
        refine q_aload_n o_Li_liveOn_70 rfl ?_
        refine q_iload_n o_Li_liveOn_71 rfl ?_
        refine q2_callVi _ (a := 12) (As := [.int (q_I σ p0 14)]) (st := []) hs22 o_Li_liveOn_72 k_Li_64 rfl rfl (Nat.le_of_ble_eq_true rfl) h20 (fun x27 σ25 hs26 h24 => ?_)
        refine q2_ist (ls' := [some (.ref a0), some (.ref p0), some (.ref 12), some (.int (q_I σ p0 14)), some (.int x6), some (.int x10), some (.int x23), some (.int x27)]) o_Li_liveOn_75 (Nat.le_of_ble_eq_true rfl) rfl ?_
        refine q_aload_n o_Li_liveOn_77 rfl ?_
        refine q_iload o_Li_liveOn_78 rfl ?_
        refine q_iload o_Li_liveOn_80 rfl ?_
        refine q2_callVv _ (a := a0) (As := [.int x23, .int x27]) (st := []) hs26 o_Li_liveOn_82 k_Li_76 (kd_Li_0 ha0) rfl (Nat.le_of_ble_eq_true rfl) h24 (fun σ29 hs30 h28 => ?_)
        exact q_vre o_Li_liveOn_85 rfl h28
    · have h31 := h7.2 c11
      refine q_aload_n o_Li_liveOn_32 rfl ?_
      refine q_aload_n o_Li_liveOn_33 rfl ?_
      refine q_iload o_Li_liveOn_34 rfl ?_
      refine q_iload o_Li_liveOn_36 rfl ?_
      refine q_iconst (v := 1) o_Li_liveOn_38 (by decide) ?_
      refine q2_callVi _ (a := a0) (As := [.ref p0, .int x6, .int x10, .int 1]) (st := []) hs9 o_Li_liveOn_39 k_Li_68 (kd_Li_0 ha0) rfl (Nat.le_of_ble_eq_true rfl) h31 (fun x35 σ33 hs34 h32 => ?_)
      refine q_if_eq o_Li_liveOn_42 (fun c36 => ?_) (fun c36 => ?_)
      · have h37 := h32.1 c36
        refine q_aload_n o_Li_liveOn_54 rfl ?_
        refine q_bipush (v := 10) o_Li_liveOn_55 (by decide) ?_
        refine q2_callVi _ (a := 12) (As := [.int 10]) (st := []) hs34 o_Li_liveOn_57 k_Li_64 rfl rfl (Nat.le_of_ble_eq_true rfl) h37 (fun x41 σ39 hs40 h38 => ?_)
        refine q_if_ne o_Li_liveOn_60 (fun c42 => ?_) (fun c42 => ?_)
        · have h43 := h38.1 c42
          exact q_vre o_Li_liveOn_85 rfl h43
        · have h44 := h38.2 c42
          refine q_aload_n o_Li_liveOn_63 rfl ?_
          refine q_iload_n o_Li_liveOn_64 rfl ?_
          refine q2_callVi _ (a := 12) (As := [.int (q_I σ p0 14)]) (st := []) hs40 o_Li_liveOn_65 k_Li_64 rfl rfl (Nat.le_of_ble_eq_true rfl) h44 (fun x48 σ46 hs47 h45 => ?_)
          refine q2_ist (ls' := [some (.ref a0), some (.ref p0), some (.ref 12), some (.int (q_I σ p0 14)), some (.int x6), some (.int x10), some (.int x48), none]) o_Li_liveOn_68 (Nat.le_of_ble_eq_true rfl) rfl ?_
          refine q_aload_n o_Li_liveOn_70 rfl ?_
          refine q_iload_n o_Li_liveOn_71 rfl ?_
          refine q2_callVi _ (a := 12) (As := [.int (q_I σ p0 14)]) (st := []) hs47 o_Li_liveOn_72 k_Li_64 rfl rfl (Nat.le_of_ble_eq_true rfl) h45 (fun x52 σ50 hs51 h49 => ?_)
          refine q2_ist (ls' := [some (.ref a0), some (.ref p0), some (.ref 12), some (.int (q_I σ p0 14)), some (.int x6), some (.int x10), some (.int x48), some (.int x52)]) o_Li_liveOn_75 (Nat.le_of_ble_eq_true rfl) rfl ?_
          refine q_aload_n o_Li_liveOn_77 rfl ?_
          refine q_iload o_Li_liveOn_78 rfl ?_
          refine q_iload o_Li_liveOn_80 rfl ?_
          refine q2_callVv _ (a := a0) (As := [.int x48, .int x52]) (st := []) hs51 o_Li_liveOn_82 k_Li_76 (kd_Li_0 ha0) rfl (Nat.le_of_ble_eq_true rfl) h49 (fun σ54 hs55 h53 => ?_)
          exact q_vre o_Li_liveOn_85 rfl h53
      · have h56 := h32.2 c36
        refine q_aload_n o_Li_liveOn_45 rfl ?_
        refine q_iload o_Li_liveOn_46 rfl ?_
        refine q_iload o_Li_liveOn_48 rfl ?_
        refine q_iconst (v := 1) o_Li_liveOn_50 (by decide) ?_
        refine q2_callVv _ (a := a0) (As := [.int x6, .int x10, .int 1]) (st := []) hs34 o_Li_liveOn_51 k_Li_72 (kd_Li_0 ha0) rfl (Nat.le_of_ble_eq_true rfl) h56 (fun σ58 hs59 h57 => ?_)
        refine q_aload_n o_Li_liveOn_54 rfl ?_
        refine q_bipush (v := 10) o_Li_liveOn_55 (by decide) ?_
        refine q2_callVi _ (a := 12) (As := [.int 10]) (st := []) hs59 o_Li_liveOn_57 k_Li_64 rfl rfl (Nat.le_of_ble_eq_true rfl) h57 (fun x63 σ61 hs62 h60 => ?_)
        refine q_if_ne o_Li_liveOn_60 (fun c64 => ?_) (fun c64 => ?_)
        · have h65 := h60.1 c64
          exact q_vre o_Li_liveOn_85 rfl h65
        · have h66 := h60.2 c64
          refine q_aload_n o_Li_liveOn_63 rfl ?_
          refine q_iload_n o_Li_liveOn_64 rfl ?_
          refine q2_callVi _ (a := 12) (As := [.int (q_I σ p0 14)]) (st := []) hs62 o_Li_liveOn_65 k_Li_64 rfl rfl (Nat.le_of_ble_eq_true rfl) h66 (fun x70 σ68 hs69 h67 => ?_)
          refine q2_ist (ls' := [some (.ref a0), some (.ref p0), some (.ref 12), some (.int (q_I σ p0 14)), some (.int x6), some (.int x10), some (.int x70), none]) o_Li_liveOn_68 (Nat.le_of_ble_eq_true rfl) rfl ?_
          refine q_aload_n o_Li_liveOn_70 rfl ?_
          refine q_iload_n o_Li_liveOn_71 rfl ?_
          refine q2_callVi _ (a := 12) (As := [.int (q_I σ p0 14)]) (st := []) hs69 o_Li_liveOn_72 k_Li_64 rfl rfl (Nat.le_of_ble_eq_true rfl) h67 (fun x74 σ72 hs73 h71 => ?_)
          refine q2_ist (ls' := [some (.ref a0), some (.ref p0), some (.ref 12), some (.int (q_I σ p0 14)), some (.int x6), some (.int x10), some (.int x70), some (.int x74)]) o_Li_liveOn_75 (Nat.le_of_ble_eq_true rfl) rfl ?_
          refine q_aload_n o_Li_liveOn_77 rfl ?_
          refine q_iload o_Li_liveOn_78 rfl ?_
          refine q_iload o_Li_liveOn_80 rfl ?_
          refine q2_callVv _ (a := a0) (As := [.int x70, .int x74]) (st := []) hs73 o_Li_liveOn_82 k_Li_76 (kd_Li_0 ha0) rfl (Nat.le_of_ble_eq_true rfl) h71 (fun σ76 hs77 h75 => ?_)
          exact q_vre o_Li_liveOn_85 rfl h75
  · have h78 := h.2 c1
    exact q_vre o_Li_liveOn_10 rfl h78

set_option maxRecDepth 20000 in
theorem v_Tl_forget_0 {G : q_G} {d : Nat} {σ : q_S} {Q : Option Value → q_S → Prop} {a0 : Nat} (ha0 : q_isTl a0) (hs : q_Sh σ) (h : Q none (q_setI (q_setL (q_setL σ a0 0 0) a0 1 0) a0 2 0)) : q_At G X_Tl_forget d 0 0 0 [some (.ref a0)] [] σ Q := by
  refine q_aload_n o_Tl_forget_0 rfl ?_
  refine q_lconst (v := 0) o_Tl_forget_1 (by decide) ?_
  refine q2_putL hs o_Tl_forget_2 fp_Tl_7 (kd_Tl_0 ha0) rfl rfl ?_
  refine q_aload_n o_Tl_forget_5 rfl ?_
  refine q_lconst (v := 0) o_Tl_forget_6 (by decide) ?_
  refine q2_putL hs o_Tl_forget_7 fp_Tl_13 (kd_Tl_0 ha0) rfl rfl ?_
  refine q_aload_n o_Tl_forget_10 rfl ?_
  refine q_iconst (v := 0) o_Tl_forget_11 (by decide) ?_
  refine q2_putI hs o_Tl_forget_12 fp_Tl_16 (kd_Tl_0 ha0) rfl rfl ?_
  exact q_vre o_Tl_forget_15 rfl h

set_option maxRecDepth 20000 in
theorem v_Tl_become_0 {G : q_G} {d : Nat} {σ : q_S} {Q : Option Value → q_S → Prop} {a0 : Nat} {p0 : Nat} (ha0 : q_isTl a0) (hp0 : q_isTl p0) (hs : q_Sh σ) (h : Q none (q_setI (q_setL (q_setL σ a0 0 (q_L σ p0 0)) a0 1 (q_L (q_setL σ a0 0 (q_L σ p0 0)) p0 1)) a0 2 (q_I (q_setL (q_setL σ a0 0 (q_L σ p0 0)) a0 1 (q_L (q_setL σ a0 0 (q_L σ p0 0)) p0 1)) p0 2))) : q_At G X_Tl_become d 0 0 0 [some (.ref a0), some (.ref p0)] [] σ Q := by
  refine q_aload_n o_Tl_become_0 rfl ?_
  refine q_aload_n o_Tl_become_1 rfl ?_
  refine q2_getL hs o_Tl_become_2 f_Tl_7 (kd_Tl_0 hp0) ?_
  refine q2_putL hs o_Tl_become_5 fp_Tl_7 (kd_Tl_0 ha0) rfl rfl ?_
  refine q_aload_n o_Tl_become_8 rfl ?_
  refine q_aload_n o_Tl_become_9 rfl ?_
  refine q2_getL hs o_Tl_become_10 f_Tl_13 (kd_Tl_0 hp0) ?_
  refine q2_putL hs o_Tl_become_13 fp_Tl_13 (kd_Tl_0 ha0) rfl rfl ?_
  refine q_aload_n o_Tl_become_16 rfl ?_
  refine q_aload_n o_Tl_become_17 rfl ?_
  refine q2_getI hs o_Tl_become_18 f_Tl_16 (kd_Tl_0 hp0) ?_
  refine q2_putI hs o_Tl_become_21 fp_Tl_16 (kd_Tl_0 ha0) rfl rfl ?_
  exact q_vre o_Tl_become_24 rfl h

set_option maxRecDepth 20000 in
theorem v_Tl_add_0 {G : q_G} {d : Nat} {σ : q_S} {Q : Option Value → q_S → Prop} {a0 : Nat} {p0 : Int64} {p1 : Int32} (ha0 : q_isTl a0) (hs : q_Sh σ) (h : ((p1 = 0 → Q none (q_setI (q_setL σ a0 1 ((q_L σ a0 1) ||| p0)) a0 2 ((q_I (q_setL σ a0 1 ((q_L σ a0 1) ||| p0)) a0 2) + 1))) ∧ (¬ p1 = 0 → Q none (q_setI (q_setL σ a0 0 ((q_L σ a0 0) ||| p0)) a0 2 ((q_I (q_setL σ a0 0 ((q_L σ a0 0) ||| p0)) a0 2) + 1))))) : q_At G X_Tl_add d 0 0 0 [some (.ref a0), some (.long p0), none, some (.int p1)] [] σ Q := by
  refine q_iload_n o_Tl_add_0 rfl ?_
  refine q_if_eq o_Tl_add_1 (fun c1 => ?_) (fun c1 => ?_)
  · have h2 := h.1 c1
    refine q_aload_n o_Tl_add_17 rfl ?_
    refine q_dup o_Tl_add_18 rfl ?_
    refine q2_getL hs o_Tl_add_19 f_Tl_13 (kd_Tl_0 ha0) ?_
    refine q_lload_n o_Tl_add_22 rfl ?_
    refine q_lor o_Tl_add_23 ?_
    refine q2_putL hs o_Tl_add_24 fp_Tl_13 (kd_Tl_0 ha0) rfl rfl ?_
    refine q_aload_n o_Tl_add_27 rfl ?_
    refine q_dup o_Tl_add_28 rfl ?_
    refine q2_getI hs o_Tl_add_29 f_Tl_16 (kd_Tl_0 ha0) ?_
    refine q_iconst (v := 1) o_Tl_add_32 (by decide) ?_
    refine q_iadd o_Tl_add_33 ?_
    refine q2_putI hs o_Tl_add_34 fp_Tl_16 (kd_Tl_0 ha0) rfl rfl ?_
    exact q_vre o_Tl_add_37 rfl h2
  · have h3 := h.2 c1
    refine q_aload_n o_Tl_add_4 rfl ?_
    refine q_dup o_Tl_add_5 rfl ?_
    refine q2_getL hs o_Tl_add_6 f_Tl_7 (kd_Tl_0 ha0) ?_
    refine q_lload_n o_Tl_add_9 rfl ?_
    refine q_lor o_Tl_add_10 ?_
    refine q2_putL hs o_Tl_add_11 fp_Tl_7 (kd_Tl_0 ha0) rfl rfl ?_
    refine q_goto o_Tl_add_14 ?_
    refine q_aload_n o_Tl_add_27 rfl ?_
    refine q_dup o_Tl_add_28 rfl ?_
    refine q2_getI hs o_Tl_add_29 f_Tl_16 (kd_Tl_0 ha0) ?_
    refine q_iconst (v := 1) o_Tl_add_32 (by decide) ?_
    refine q_iadd o_Tl_add_33 ?_
    refine q2_putI hs o_Tl_add_34 fp_Tl_16 (kd_Tl_0 ha0) rfl rfl ?_
    exact q_vre o_Tl_add_37 rfl h3

set_option maxRecDepth 20000 in
theorem v_Tl_agreeWith_0 {G : q_G} {d : Nat} {σ : q_S} {Q : Option Value → q_S → Prop} {a0 : Nat} {p0 : Int64} (ha0 : q_isTl a0) (hs : q_Sh σ) (h : (narrow .boolean (.int (if (lg_cmp (p0 &&& (q_L σ a0 0)) (q_L σ a0 0)) = 0 then (if (lg_cmp (p0 &&& (q_L σ a0 1)) 0) = 0 then (1 : Int32) else (0 : Int32)) else (0 : Int32))) = .int (if (lg_cmp (p0 &&& (q_L σ a0 0)) (q_L σ a0 0)) = 0 then (if (lg_cmp (p0 &&& (q_L σ a0 1)) 0) = 0 then (1 : Int32) else (0 : Int32)) else (0 : Int32)) ∧ Q (some (.int (if (lg_cmp (p0 &&& (q_L σ a0 0)) (q_L σ a0 0)) = 0 then (if (lg_cmp (p0 &&& (q_L σ a0 1)) 0) = 0 then (1 : Int32) else (0 : Int32)) else (0 : Int32)))) σ)) : q_At G X_Tl_agreeWith d 0 0 0 [some (.ref a0), some (.long p0), none] [] σ Q := by
  refine q_lload_n o_Tl_agreeWith_0 rfl ?_
  refine q_aload_n o_Tl_agreeWith_1 rfl ?_
  refine q2_getL hs o_Tl_agreeWith_2 f_Tl_7 (kd_Tl_0 ha0) ?_
  refine q_land o_Tl_agreeWith_5 ?_
  refine q_aload_n o_Tl_agreeWith_6 rfl ?_
  refine q2_getL hs o_Tl_agreeWith_7 f_Tl_7 (kd_Tl_0 ha0) ?_
  refine q_lcmp o_Tl_agreeWith_10 ?_
  have hJ : ∀ vJ : Int32, vJ = (if (lg_cmp (p0 &&& (q_L σ a0 0)) (q_L σ a0 0)) = 0 then (if (lg_cmp (p0 &&& (q_L σ a0 1)) 0) = 0 then (1 : Int32) else (0 : Int32)) else (0 : Int32)) → q_At G X_Tl_agreeWith d 0 0 30 [some (.ref a0), some (.long p0), none] [.int vJ] σ Q := by
    intro vJ eJ
    rw [eJ]
    clear eJ vJ
    exact q_zre o_Tl_agreeWith_30 rfl h.1 h.2
  refine q_if_ne o_Tl_agreeWith_11 (fun c1 => ?_) (fun c1 => ?_)
  · refine q_iconst (v := 0) o_Tl_agreeWith_29 (by decide) ?_
    exact hJ _ (Eq.symm (if_neg c1))
  · refine q_lload_n o_Tl_agreeWith_14 rfl ?_
    refine q_aload_n o_Tl_agreeWith_15 rfl ?_
    refine q2_getL hs o_Tl_agreeWith_16 f_Tl_13 (kd_Tl_0 ha0) ?_
    refine q_land o_Tl_agreeWith_19 ?_
    refine q_lconst (v := 0) o_Tl_agreeWith_20 (by decide) ?_
    refine q_lcmp o_Tl_agreeWith_21 ?_
    refine q_if_ne o_Tl_agreeWith_22 (fun c2 => ?_) (fun c2 => ?_)
    · refine q_iconst (v := 0) o_Tl_agreeWith_29 (by decide) ?_
      exact hJ _ (Eq.symm ((if_pos c1).trans (if_neg c2)))
    · refine q_iconst (v := 1) o_Tl_agreeWith_25 (by decide) ?_
      refine q_goto o_Tl_agreeWith_26 ?_
      exact hJ _ (Eq.symm ((if_pos c1).trans (if_pos c2)))

set_option maxRecDepth 20000 in
theorem v_Tp_addBytes_0 {G : q_G} {d : Nat} {σ : q_S} {Q : Option Value → q_S → Prop} {p0 : Int64}  (hs : q_Sh σ) (h : q_At G X_Tp_addBytes (d + 1) 0 0 3 [some (.ref 1), some (.long p0), none, some (.int 56)] [] σ Q) : q_At G X_Tp_addBytes (d + 1) 0 0 0 [some (.ref 1), some (.long p0), none, none] [] σ Q := by
  refine q_bipush (v := 56) o_Tp_addBytes_0 (by decide) ?_
  refine q2_istn (ls' := [some (.ref 1), some (.long p0), none, some (.int 56)]) o_Tp_addBytes_2 (Nat.le_of_ble_eq_true rfl) rfl ?_
  exact h

set_option maxRecDepth 20000 in
theorem v_Tp_addBytes_3 {G : q_G} {d : Nat} {σ : q_S} {Q : Option Value → q_S → Prop} {p0 : Int64} {l3 : Int32}  (hs : q_Sh σ) (h : ((l3 < 0 → Q none σ) ∧ (¬ l3 < 0 → q_Call G d 0 0 X_Tp_add [.ref 1, .int (((p0.toUInt64 >>> (l3.toInt64.toUInt64 &&& Int64.toUInt64 63)).toInt64).toInt32 &&& 255)] σ (q_rv (fun σ5 => q_At G X_Tp_addBytes (d + 1) 0 0 3 [some (.ref 1), some (.long p0), none, some (.int (l3 + (-8)))] [] σ5 Q))))) : q_At G X_Tp_addBytes (d + 1) 0 0 3 [some (.ref 1), some (.long p0), none, some (.int l3)] [] σ Q := by
  refine q_iload_n o_Tp_addBytes_3 rfl ?_
  refine q_if_lt o_Tp_addBytes_4 (fun c1 => ?_) (fun c1 => ?_)
  · have h2 := h.1 c1
    exact q_vre o_Tp_addBytes_25 rfl h2
  · have h3 := h.2 c1
    refine q_aload_n o_Tp_addBytes_7 rfl ?_
    refine q_lload_n o_Tp_addBytes_8 rfl ?_
    refine q_iload_n o_Tp_addBytes_9 rfl ?_
    refine q_lushr o_Tp_addBytes_10 ?_
    refine q_l2i o_Tp_addBytes_11 ?_
    refine q_sipush (v := 255) o_Tp_addBytes_12 (by decide) ?_
    refine q_iand o_Tp_addBytes_15 ?_
    refine q2_callVv _ (a := 1) (As := [.int (((p0.toUInt64 >>> (l3.toInt64.toUInt64 &&& Int64.toUInt64 63)).toInt64).toInt32 &&& 255)]) (st := []) hs o_Tp_addBytes_16 k_Tp_15 rfl rfl (Nat.le_of_ble_eq_true rfl) h3 (fun σ5 hs6 h4 => ?_)
    refine q2_inc (v := (l3 + (-8))) (ls' := [some (.ref 1), some (.long p0), none, some (.int (l3 + (-8)))]) o_Tp_addBytes_19 rfl rfl (Nat.le_of_ble_eq_true rfl) rfl ?_
    refine q_goto o_Tp_addBytes_22 ?_
    exact h4

set_option maxRecDepth 20000 in
theorem v_Tp_add_0 {G : q_G} {d : Nat} {σ : q_S} {Q : Option Value → q_S → Prop} {p0 : Int32}  (hs : q_Sh σ) (h : (((if p0 = 10 then (1 : Int32) else (if p0 < 32 then (0 : Int32) else (if 126 < p0 then (0 : Int32) else (1 : Int32)))) = 0 → Q none σ) ∧ (¬ (if p0 = 10 then (1 : Int32) else (if p0 < 32 then (0 : Int32) else (if 126 < p0 then (0 : Int32) else (1 : Int32)))) = 0 → ((1000 ≤ (q_I σ 1 1) → Q none σ) ∧ (¬ 1000 ≤ (q_I σ 1 1) → (∃ k11, (q_I σ 1 1) = nI k11 ∧ k11 < 1000 ∧ Q none (q_setI (q_setI σ 2 k11 (vp_nar .char ((p0.toUInt32 % 65536).toInt32))) 1 1 ((q_I (q_setI σ 2 k11 (vp_nar .char ((p0.toUInt32 % 65536).toInt32))) 1 1) + 1)))))))) : q_At G X_Tp_add d 0 0 0 [some (.ref 1), some (.int p0), none] [] σ Q := by
  refine q_iload_n o_Tp_add_0 rfl ?_
  refine q_bipush (v := 10) o_Tp_add_1 (by decide) ?_
  have hJ : ∀ vJ : Int32, vJ = (if p0 = 10 then (1 : Int32) else (if p0 < 32 then (0 : Int32) else (if 126 < p0 then (0 : Int32) else (1 : Int32)))) → q_At G X_Tp_add d 0 0 23 [some (.ref 1), some (.int p0), none] [.int vJ] σ Q := by
    intro vJ eJ
    rw [eJ]
    clear eJ vJ
    refine q2_istn (ls' := [some (.ref 1), some (.int p0), some (.int (if p0 = 10 then (1 : Int32) else (if p0 < 32 then (0 : Int32) else (if 126 < p0 then (0 : Int32) else (1 : Int32)))))]) o_Tp_add_23 (Nat.le_of_ble_eq_true rfl) rfl ?_
    refine q_iload_n o_Tp_add_24 rfl ?_
    refine q_if_eq o_Tp_add_25 (fun c4 => ?_) (fun c4 => ?_)
    · have h5 := h.1 c4
      exact q_vre o_Tp_add_59 rfl h5
    · have h6 := h.2 c4
      refine q_aload_n o_Tp_add_28 rfl ?_
      refine q2_getI hs o_Tp_add_29 f_Tp_19 rfl ?_
      refine q_sipush (v := 1000) o_Tp_add_32 (by decide) ?_
      refine q_icmp_ge o_Tp_add_35 (fun c7 => ?_) (fun c7 => ?_)
      · have h8 := h6.1 c7
        exact q_vre o_Tp_add_59 rfl h8
      · have h9 := h6.2 c7
        refine q_aload_n o_Tp_add_38 rfl ?_
        refine q2_getR hs o_Tp_add_39 f_Tp_9 rfl (fz_1_0 hs) ?_
        refine q_aload_n o_Tp_add_42 rfl ?_
        refine q2_getI hs o_Tp_add_43 f_Tp_19 rfl ?_
        refine q_iload_n o_Tp_add_46 rfl ?_
        refine q_i2c o_Tp_add_47 ?_
        obtain ⟨k11, eh10, bh10, h10⟩ := h9
        refine q2_cast hs o_Tp_add_48 rfl eh10 bh10 (by decide) ?_
        refine q_aload_n o_Tp_add_49 rfl ?_
        refine q_dup o_Tp_add_50 rfl ?_
        refine q2_getI hs o_Tp_add_51 f_Tp_19 rfl ?_
        refine q_iconst (v := 1) o_Tp_add_54 (by decide) ?_
        refine q_iadd o_Tp_add_55 ?_
        refine q2_putI hs o_Tp_add_56 fp_Tp_19 rfl rfl rfl ?_
        exact q_vre o_Tp_add_59 rfl h10
  refine q_icmp_eq o_Tp_add_3 (fun c1 => ?_) (fun c1 => ?_)
  · refine q_iconst (v := 1) o_Tp_add_18 (by decide) ?_
    refine q_goto o_Tp_add_19 ?_
    exact hJ _ (Eq.symm (if_pos c1))
  · refine q_iload_n o_Tp_add_6 rfl ?_
    refine q_bipush (v := 32) o_Tp_add_7 (by decide) ?_
    refine q_icmp_lt o_Tp_add_9 (fun c2 => ?_) (fun c2 => ?_)
    · refine q_iconst (v := 0) o_Tp_add_22 (by decide) ?_
      exact hJ _ (Eq.symm ((if_neg c1).trans (if_pos c2)))
    · refine q_iload_n o_Tp_add_12 rfl ?_
      refine q_bipush (v := 126) o_Tp_add_13 (by decide) ?_
      refine q_icmp_gt o_Tp_add_15 (fun c3 => ?_) (fun c3 => ?_)
      · refine q_iconst (v := 0) o_Tp_add_22 (by decide) ?_
        exact hJ _ (Eq.symm (((if_neg c1).trans (if_neg c2)).trans (if_pos c3)))
      · refine q_iconst (v := 1) o_Tp_add_18 (by decide) ?_
        refine q_goto o_Tp_add_19 ?_
        exact hJ _ (Eq.symm (((if_neg c1).trans (if_neg c2)).trans (if_neg c3)))
