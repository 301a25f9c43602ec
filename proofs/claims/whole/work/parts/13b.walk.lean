set_option maxRecDepth 20000 in
theorem v_Rd_readTown_0 {G : q_G} {d : Nat} {σ : q_S} {Q : Option Value → q_S → Prop} {p0 : Nat} (hp0 : q_isTw p0) (hs : q_Sh σ) (h : q_Call G d 0 0 X_Tw_forget [.ref p0] σ (q_rv (fun σ2 => q_Call G d 0 0 X_Tk_start [.ref 3] σ2 (q_rv (fun σ5 => q_At G X_Rd_readTown (d + 1) 0 0 15 [some (.ref 4), some (.ref p0), some (.int 1), some (.int 0)] [] σ5 Q))))) : q_At G X_Rd_readTown (d + 1) 0 0 0 [some (.ref 4), some (.ref p0), none, none] [] σ Q := by
  refine q_aload_n o_Rd_readTown_0 rfl ?_
  refine q2_callVv _ (a := p0) (As := []) (st := []) hs o_Rd_readTown_1 k_Rd_15 (kd_Tw_0 hp0) rfl (Nat.le_of_ble_eq_true rfl) h (fun σ2 hs3 h1 => ?_)
  refine q_aload_n o_Rd_readTown_4 rfl ?_
  refine q2_getR hs3 o_Rd_readTown_5 f_Rd_9 rfl (fz_4_0 hs3) ?_
  refine q2_callVv _ (a := 3) (As := []) (st := []) hs3 o_Rd_readTown_8 k_Rd_20 rfl rfl (Nat.le_of_ble_eq_true rfl) h1 (fun σ5 hs6 h4 => ?_)
  refine q_iconst (v := 1) o_Rd_readTown_11 (by decide) ?_
  refine q2_istn (ls' := [some (.ref 4), some (.ref p0), some (.int 1), none]) o_Rd_readTown_12 (Nat.le_of_ble_eq_true rfl) rfl ?_
  refine q_iconst (v := 0) o_Rd_readTown_13 (by decide) ?_
  refine q2_istn (ls' := [some (.ref 4), some (.ref p0), some (.int 1), some (.int 0)]) o_Rd_readTown_14 (Nat.le_of_ble_eq_true rfl) rfl ?_
  exact h4

set_option maxRecDepth 20000 in
theorem v_Rd_readTown_15 {G : q_G} {d : Nat} {σ : q_S} {Q : Option Value → q_S → Prop} {p0 : Nat} {l2 : Int32} {l3 : Int32} (hp0 : q_isTw p0) (hs : q_Sh σ) (h : ((1000 ≤ l3 → ((l2 = 0 → Q (some (.int (q_I σ 3 9))) σ) ∧ (¬ l2 = 0 → q_Call G d 0 0 X_Tw_listen [.ref p0] σ (q_rv (fun σ7 => Q (some (.int (q_I σ7 3 9))) σ7))))) ∧ (¬ 1000 ≤ l3 → ((l2 = 0 → ((l2 = 0 → Q (some (.int (q_I σ 3 9))) σ) ∧ (¬ l2 = 0 → q_Call G d 0 0 X_Tw_listen [.ref p0] σ (q_rv (fun σ16 => Q (some (.int (q_I σ16 3 9))) σ16))))) ∧ (¬ l2 = 0 → (((q_I σ 3 1) = 0 → ((l2 = 0 → Q (some (.int (q_I σ 3 9))) σ) ∧ (¬ l2 = 0 → q_Call G d 0 0 X_Tw_listen [.ref p0] σ (q_rv (fun σ25 => Q (some (.int (q_I σ25 3 9))) σ25))))) ∧ (¬ (q_I σ 3 1) = 0 → q_Call G d 0 0 X_Rd_readTownLine [.ref 4, .ref p0] σ (q_ri (fun x31 σ29 => ((x31 = 0 → q_At G X_Rd_readTown (d + 1) 0 0 15 [some (.ref 4), some (.ref p0), some (.int 0), some (.int (l3 + 1))] [] σ29 Q) ∧ (¬ x31 = 0 → q_Call G d 0 0 X_Tk_takeSign [.ref 3, .int 59] σ29 (q_ri (fun x38 σ36 => q_At G X_Rd_readTown (d + 1) 0 0 15 [some (.ref 4), some (.ref p0), some (.int (if x38 = 0 then (0 : Int32) else (1 : Int32))), some (.int (l3 + 1))] [] σ36 Q))))))))))))) : q_At G X_Rd_readTown (d + 1) 0 0 15 [some (.ref 4), some (.ref p0), some (.int l2), some (.int l3)] [] σ Q := by
  refine q_iload_n o_Rd_readTown_15 rfl ?_
  refine q_sipush (v := 1000) o_Rd_readTown_16 (by decide) ?_
  refine q_icmp_ge o_Rd_readTown_19 (fun c1 => ?_) (fun c1 => ?_)
  · have h2 := h.1 c1
    refine q_iload_n o_Rd_readTown_68 rfl ?_
    refine q_if_eq o_Rd_readTown_69 (fun c3 => ?_) (fun c3 => ?_)
    · have h4 := h2.1 c3
      refine q_aload_n o_Rd_readTown_76 rfl ?_
      refine q2_getR hs o_Rd_readTown_77 f_Rd_9 rfl (fz_4_0 hs) ?_
      refine q2_getI hs o_Rd_readTown_80 f_Rd_40 rfl ?_
      exact q_ire o_Rd_readTown_83 rfl h4
    · have h5 := h2.2 c3
      refine q_aload_n o_Rd_readTown_72 rfl ?_
      refine q2_callVv _ (a := p0) (As := []) (st := []) hs o_Rd_readTown_73 k_Rd_37 (kd_Tw_0 hp0) rfl (Nat.le_of_ble_eq_true rfl) h5 (fun σ7 hs8 h6 => ?_)
      refine q_aload_n o_Rd_readTown_76 rfl ?_
      refine q2_getR hs8 o_Rd_readTown_77 f_Rd_9 rfl (fz_4_0 hs8) ?_
      refine q2_getI hs8 o_Rd_readTown_80 f_Rd_40 rfl ?_
      exact q_ire o_Rd_readTown_83 rfl h6
  · have h9 := h.2 c1
    refine q_iload_n o_Rd_readTown_22 rfl ?_
    refine q_if_eq o_Rd_readTown_23 (fun c10 => ?_) (fun c10 => ?_)
    · have h11 := h9.1 c10
      refine q_iload_n o_Rd_readTown_68 rfl ?_
      refine q_if_eq o_Rd_readTown_69 (fun c12 => ?_) (fun c12 => ?_)
      · have h13 := h11.1 c12
        refine q_aload_n o_Rd_readTown_76 rfl ?_
        refine q2_getR hs o_Rd_readTown_77 f_Rd_9 rfl (fz_4_0 hs) ?_
        refine q2_getI hs o_Rd_readTown_80 f_Rd_40 rfl ?_
        exact q_ire o_Rd_readTown_83 rfl h13
      · have h14 := h11.2 c12
        refine q_aload_n o_Rd_readTown_72 rfl ?_
        refine q2_callVv _ (a := p0) (As := []) (st := []) hs o_Rd_readTown_73 k_Rd_37 (kd_Tw_0 hp0) rfl (Nat.le_of_ble_eq_true rfl) h14 (fun σ16 hs17 h15 => ?_)
        refine q_aload_n o_Rd_readTown_76 rfl ?_
        refine q2_getR hs17 o_Rd_readTown_77 f_Rd_9 rfl (fz_4_0 hs17) ?_
        refine q2_getI hs17 o_Rd_readTown_80 f_Rd_40 rfl ?_
        exact q_ire o_Rd_readTown_83 rfl h15
    · have h18 := h9.2 c10
      refine q_aload_n o_Rd_readTown_26 rfl ?_
      refine q2_getR hs o_Rd_readTown_27 f_Rd_9 rfl (fz_4_0 hs) ?_
      refine q2_getI hs o_Rd_readTown_30 f_Rd_25 rfl ?_
      refine q_if_eq o_Rd_readTown_33 (fun c19 => ?_) (fun c19 => ?_)
      · have h20 := h18.1 c19
        refine q_iload_n o_Rd_readTown_68 rfl ?_
        refine q_if_eq o_Rd_readTown_69 (fun c21 => ?_) (fun c21 => ?_)
        · have h22 := h20.1 c21
          refine q_aload_n o_Rd_readTown_76 rfl ?_
          refine q2_getR hs o_Rd_readTown_77 f_Rd_9 rfl (fz_4_0 hs) ?_
          refine q2_getI hs o_Rd_readTown_80 f_Rd_40 rfl ?_
          exact q_ire o_Rd_readTown_83 rfl h22
        · have h23 := h20.2 c21
          refine q_aload_n o_Rd_readTown_72 rfl ?_
          refine q2_callVv _ (a := p0) (As := []) (st := []) hs o_Rd_readTown_73 k_Rd_37 (kd_Tw_0 hp0) rfl (Nat.le_of_ble_eq_true rfl) h23 (fun σ25 hs26 h24 => ?_)
          refine q_aload_n o_Rd_readTown_76 rfl ?_
          refine q2_getR hs26 o_Rd_readTown_77 f_Rd_9 rfl (fz_4_0 hs26) ?_
          refine q2_getI hs26 o_Rd_readTown_80 f_Rd_40 rfl ?_
          exact q_ire o_Rd_readTown_83 rfl h24
      · have h27 := h18.2 c19
        refine q_aload_n o_Rd_readTown_36 rfl ?_
        refine q_aload_n o_Rd_readTown_37 rfl ?_
        refine q2_callVi _ (a := 4) (As := [.ref p0]) (st := []) hs o_Rd_readTown_38 k_Rd_29 rfl rfl (Nat.le_of_ble_eq_true rfl) h27 (fun x31 σ29 hs30 h28 => ?_)
        refine q_if_eq o_Rd_readTown_41 (fun c32 => ?_) (fun c32 => ?_)
        · have h33 := h28.1 c32
          refine q_iconst (v := 0) o_Rd_readTown_60 (by decide) ?_
          refine q2_istn (ls' := [some (.ref 4), some (.ref p0), some (.int 0), some (.int l3)]) o_Rd_readTown_61 (Nat.le_of_ble_eq_true rfl) rfl ?_
          refine q2_inc (v := (l3 + 1)) (ls' := [some (.ref 4), some (.ref p0), some (.int 0), some (.int (l3 + 1))]) o_Rd_readTown_62 rfl rfl (Nat.le_of_ble_eq_true rfl) rfl ?_
          refine q_goto o_Rd_readTown_65 ?_
          exact h33
        · have h34 := h28.2 c32
          refine q_aload_n o_Rd_readTown_44 rfl ?_
          refine q2_getR hs30 o_Rd_readTown_45 f_Rd_9 rfl (fz_4_0 hs30) ?_
          refine q_bipush (v := 59) o_Rd_readTown_48 (by decide) ?_
          refine q2_callVi _ (a := 3) (As := [.int 59]) (st := []) hs30 o_Rd_readTown_50 k_Rd_33 rfl rfl (Nat.le_of_ble_eq_true rfl) h34 (fun x38 σ36 hs37 h35 => ?_)
          have hJ : ∀ vJ : Int32, vJ = (if x38 = 0 then (0 : Int32) else (1 : Int32)) → q_At G X_Rd_readTown (d + 1) 0 0 61 [some (.ref 4), some (.ref p0), some (.int l2), some (.int l3)] [.int vJ] σ36 Q := by
            intro vJ eJ
            rw [eJ]
            clear eJ vJ
            refine q2_istn (ls' := [some (.ref 4), some (.ref p0), some (.int (if x38 = 0 then (0 : Int32) else (1 : Int32))), some (.int l3)]) o_Rd_readTown_61 (Nat.le_of_ble_eq_true rfl) rfl ?_
            refine q2_inc (v := (l3 + 1)) (ls' := [some (.ref 4), some (.ref p0), some (.int (if x38 = 0 then (0 : Int32) else (1 : Int32))), some (.int (l3 + 1))]) o_Rd_readTown_62 rfl rfl (Nat.le_of_ble_eq_true rfl) rfl ?_
            refine q_goto o_Rd_readTown_65 ?_
            exact h35
          refine q_if_eq o_Rd_readTown_53 (fun c39 => ?_) (fun c39 => ?_)
          · refine q_iconst (v := 0) o_Rd_readTown_60 (by decide) ?_
            exact hJ _ (Eq.symm (if_pos c39))
          · refine q_iconst (v := 1) o_Rd_readTown_56 (by decide) ?_
            refine q_goto o_Rd_readTown_57 ?_
            exact hJ _ (Eq.symm (if_neg c39))

set_option maxRecDepth 20000 in
theorem v_Rd_readTownLine_0 {G : q_G} {d : Nat} {σ : q_S} {Q : Option Value → q_S → Prop} {p0 : Nat} (hp0 : q_isTw p0) (hs : q_Sh σ) (h : (((q_I σ 3 1) = 1 → (∃ k4, q_R σ 3 4 = some (1001 + k4) ∧ k4 < 34 ∧ (∃ k6, (nI k4) = nI k6 ∧ k6 < 34 ∧ ((((q_smap.getD k6 0).toInt < 13 ∨ 23 < (q_smap.getD k6 0).toInt) → q_Call G d 0 0 X_Tk_refuse [.ref 3, .int 1] σ (q_ri (fun x11 σ9 => (narrow .boolean (.int x11) = .int x11 ∧ Q (some (.int x11)) σ9)))) ∧ (((q_smap.getD k6 0).toInt = 13 → q_Call G d 0 0 X_Rd_readHouse [.ref 4, .ref p0] σ (q_ri (fun x17 σ15 => (narrow .boolean (.int x17) = .int x17 ∧ Q (some (.int x17)) σ15)))) ∧ ((q_smap.getD k6 0).toInt = 14 → q_Call G d 0 0 X_Rd_readWall [.ref 4, .ref p0] σ (q_ri (fun x22 σ20 => (narrow .boolean (.int x22) = .int x22 ∧ Q (some (.int x22)) σ20)))) ∧ ((q_smap.getD k6 0).toInt = 15 → q_Call G d 0 0 X_Rd_readFamily [.ref 4, .ref p0] σ (q_ri (fun x27 σ25 => (narrow .boolean (.int x27) = .int x27 ∧ Q (some (.int x27)) σ25)))) ∧ ((q_smap.getD k6 0).toInt = 16 → q_Call G d 0 0 X_Rd_readOfTwo [.ref 4, .ref p0, .ref (p0 + 8), .int 9] σ (q_ri (fun x32 σ30 => (narrow .boolean (.int x32) = .int x32 ∧ Q (some (.int x32)) σ30)))) ∧ ((q_smap.getD k6 0).toInt = 17 → q_Call G d 0 0 X_Rd_readOfTwo [.ref 4, .ref p0, .ref (p0 + 9), .int 9] σ (q_ri (fun x37 σ35 => (narrow .boolean (.int x37) = .int x37 ∧ Q (some (.int x37)) σ35)))) ∧ ((q_smap.getD k6 0).toInt = 18 → q_Call G d 0 0 X_Rd_readOfTwo [.ref 4, .ref p0, .ref (p0 + 10), .int 99] σ (q_ri (fun x42 σ40 => (narrow .boolean (.int x42) = .int x42 ∧ Q (some (.int x42)) σ40)))) ∧ ((q_smap.getD k6 0).toInt = 19 → q_Call G d 0 0 X_Rd_readApart [.ref 4, .ref p0] σ (q_ri (fun x47 σ45 => (narrow .boolean (.int x47) = .int x47 ∧ Q (some (.int x47)) σ45)))) ∧ ((q_smap.getD k6 0).toInt = 20 → q_Call G d 0 0 X_Rd_readBeside [.ref 4, .ref p0] σ (q_ri (fun x52 σ50 => (narrow .boolean (.int x52) = .int x52 ∧ Q (some (.int x52)) σ50)))) ∧ ((q_smap.getD k6 0).toInt = 21 → q_Call G d 0 0 X_Rd_readLaw [.ref 4, .ref p0, .int 0] σ (q_ri (fun x57 σ55 => (narrow .boolean (.int x57) = .int x57 ∧ Q (some (.int x57)) σ55)))) ∧ ((q_smap.getD k6 0).toInt = 22 → q_Call G d 0 0 X_Rd_readLaw [.ref 4, .ref p0, .int 1] σ (q_ri (fun x62 σ60 => (narrow .boolean (.int x62) = .int x62 ∧ Q (some (.int x62)) σ60)))) ∧ ((q_smap.getD k6 0).toInt = 23 → q_Call G d 0 0 X_Rd_readLaw [.ref 4, .ref p0, .int 2] σ (q_ri (fun x67 σ65 => (narrow .boolean (.int x67) = .int x67 ∧ Q (some (.int x67)) σ65))))))))) ∧ (¬ (q_I σ 3 1) = 1 → q_Call G d 0 0 X_Tk_refuse [.ref 3, .int 1] σ (q_ri (fun x72 σ70 => (narrow .boolean (.int x72) = .int x72 ∧ Q (some (.int x72)) σ70)))))) : q_At G X_Rd_readTownLine (d + 1) 0 0 0 [some (.ref 4), some (.ref p0)] [] σ Q := by
  refine q_aload_n o_Rd_readTownLine_0 rfl ?_
  refine q2_getR hs o_Rd_readTownLine_1 f_Rd_9 rfl (fz_4_0 hs) ?_
  refine q2_getI hs o_Rd_readTownLine_4 f_Rd_25 rfl ?_
  refine q_iconst (v := 1) o_Rd_readTownLine_7 (by decide) ?_
  refine q_icmp_eq o_Rd_readTownLine_8 (fun c1 => ?_) (fun c1 => ?_)
  · have h2 := h.1 c1
    refine q_gets (w := .ref 1042) o_Rd_readTownLine_20 s_Rd_47 (fun U H hh => hh.2.2.2.2.1.1) ?_
    refine q_aload_n o_Rd_readTownLine_23 rfl ?_
    refine q2_getR hs o_Rd_readTownLine_24 f_Rd_9 rfl (fz_4_0 hs) ?_
    obtain ⟨k4, eh3, bh3, h3⟩ := h2
    refine q2_getR hs o_Rd_readTownLine_27 f_Rd_53 rfl eh3 ?_
    refine q2_ord hs o_Rd_readTownLine_30 k_Rd_57 bh3 (Nat.le_of_ble_eq_true rfl) ?_
    obtain ⟨k6, eh5, bh5, h5⟩ := h3
    refine q_ti (w := .int (q_smap.getD k6 0)) o_Rd_readTownLine_33 (fun U H hh => hh.2.2.2.2.1.2) eh5 bh5 (by decide) rfl ?_
    rcases q_sw 13 23 (q_smap.getD k6 0) with c0 | ⟨kk, c1, c2, c3⟩
    · have h7 := h5.1 c0
      refine q_tabOut (tgt := 179) o_Rd_readTownLine_34 c0 (by decide) ?_
      refine q_aload_n o_Rd_readTownLine_179 rfl ?_
      refine q2_getR hs o_Rd_readTownLine_180 f_Rd_9 rfl (fz_4_0 hs) ?_
      refine q_iconst (v := 1) o_Rd_readTownLine_183 (by decide) ?_
      refine q2_callVi _ (a := 3) (As := [.int 1]) (st := []) hs o_Rd_readTownLine_184 k_Rd_43 rfl rfl (Nat.le_of_ble_eq_true rfl) h7 (fun x11 σ9 hs10 h8 => ?_)
      exact q_zre o_Rd_readTownLine_187 rfl h8.1 h8.2
    · have h12 := h5.2
      have hx : (q_smap.getD k6 0).toInt = 13 + (kk : Int) := c3
      have hkk : kk = 0 ∨ kk = 1 ∨ kk = 2 ∨ kk = 3 ∨ kk = 4 ∨ kk = 5 ∨ kk = 6 ∨ kk = 7 ∨ kk = 8 ∨ kk = 9 ∨ kk = 10 := by omega
      rcases hkk with rfl | rfl | rfl | rfl | rfl | rfl | rfl | rfl | rfl | rfl | rfl
      · have h13 := h12.1 (by simpa using hx)
        refine q_tabIn (tgt := 92) (off := 58) o_Rd_readTownLine_34 c1 c2 (by rw [show (q_smap.getD k6 0).toInt = 13 by simpa using hx]; rfl) (by decide) ?_
        refine q_aload_n o_Rd_readTownLine_92 rfl ?_
        refine q_aload_n o_Rd_readTownLine_93 rfl ?_
        refine q2_callVi _ (a := 4) (As := [.ref p0]) (st := []) hs o_Rd_readTownLine_94 k_Rd_63 rfl rfl (Nat.le_of_ble_eq_true rfl) h13 (fun x17 σ15 hs16 h14 => ?_)
        exact q_zre o_Rd_readTownLine_97 rfl h14.1 h14.2
      · have h18 := h12.2.1 (by simpa using hx)
        refine q_tabIn (tgt := 98) (off := 64) o_Rd_readTownLine_34 c1 c2 (by rw [show (q_smap.getD k6 0).toInt = 14 by simpa using hx]; rfl) (by decide) ?_
        refine q_aload_n o_Rd_readTownLine_98 rfl ?_
        refine q_aload_n o_Rd_readTownLine_99 rfl ?_
        refine q2_callVi _ (a := 4) (As := [.ref p0]) (st := []) hs o_Rd_readTownLine_100 k_Rd_66 rfl rfl (Nat.le_of_ble_eq_true rfl) h18 (fun x22 σ20 hs21 h19 => ?_)
        exact q_zre o_Rd_readTownLine_103 rfl h19.1 h19.2
      · have h23 := h12.2.2.1 (by simpa using hx)
        refine q_tabIn (tgt := 104) (off := 70) o_Rd_readTownLine_34 c1 c2 (by rw [show (q_smap.getD k6 0).toInt = 15 by simpa using hx]; rfl) (by decide) ?_
        refine q_aload_n o_Rd_readTownLine_104 rfl ?_
        refine q_aload_n o_Rd_readTownLine_105 rfl ?_
        refine q2_callVi _ (a := 4) (As := [.ref p0]) (st := []) hs o_Rd_readTownLine_106 k_Rd_69 rfl rfl (Nat.le_of_ble_eq_true rfl) h23 (fun x27 σ25 hs26 h24 => ?_)
        exact q_zre o_Rd_readTownLine_109 rfl h24.1 h24.2
      · have h28 := h12.2.2.2.1 (by simpa using hx)
        refine q_tabIn (tgt := 110) (off := 76) o_Rd_readTownLine_34 c1 c2 (by rw [show (q_smap.getD k6 0).toInt = 16 by simpa using hx]; rfl) (by decide) ?_
        refine q_aload_n o_Rd_readTownLine_110 rfl ?_
        refine q_aload_n o_Rd_readTownLine_111 rfl ?_
        refine q_aload_n o_Rd_readTownLine_112 rfl ?_
        refine q2_getR hs o_Rd_readTownLine_113 f_Rd_72 (kd_Tw_0 hp0) (fz_Tw_7 hs hp0) ?_
        refine q_bipush (v := 9) o_Rd_readTownLine_116 (by decide) ?_
        refine q2_callVi _ (a := 4) (As := [.ref p0, .ref (p0 + 8), .int 9]) (st := []) hs o_Rd_readTownLine_118 k_Rd_75 rfl rfl (Nat.le_of_ble_eq_true rfl) h28 (fun x32 σ30 hs31 h29 => ?_)
        exact q_zre o_Rd_readTownLine_121 rfl h29.1 h29.2
      · have h33 := h12.2.2.2.2.1 (by simpa using hx)
        refine q_tabIn (tgt := 122) (off := 88) o_Rd_readTownLine_34 c1 c2 (by rw [show (q_smap.getD k6 0).toInt = 17 by simpa using hx]; rfl) (by decide) ?_
        refine q_aload_n o_Rd_readTownLine_122 rfl ?_
        refine q_aload_n o_Rd_readTownLine_123 rfl ?_
        refine q_aload_n o_Rd_readTownLine_124 rfl ?_
        refine q2_getR hs o_Rd_readTownLine_125 f_Rd_79 (kd_Tw_0 hp0) (fz_Tw_8 hs hp0) ?_
        refine q_bipush (v := 9) o_Rd_readTownLine_128 (by decide) ?_
        refine q2_callVi _ (a := 4) (As := [.ref p0, .ref (p0 + 9), .int 9]) (st := []) hs o_Rd_readTownLine_130 k_Rd_75 rfl rfl (Nat.le_of_ble_eq_true rfl) h33 (fun x37 σ35 hs36 h34 => ?_)
        exact q_zre o_Rd_readTownLine_133 rfl h34.1 h34.2
      · have h38 := h12.2.2.2.2.2.1 (by simpa using hx)
        refine q_tabIn (tgt := 134) (off := 100) o_Rd_readTownLine_34 c1 c2 (by rw [show (q_smap.getD k6 0).toInt = 18 by simpa using hx]; rfl) (by decide) ?_
        refine q_aload_n o_Rd_readTownLine_134 rfl ?_
        refine q_aload_n o_Rd_readTownLine_135 rfl ?_
        refine q_aload_n o_Rd_readTownLine_136 rfl ?_
        refine q2_getR hs o_Rd_readTownLine_137 f_Rd_82 (kd_Tw_0 hp0) (fz_Tw_9 hs hp0) ?_
        refine q_bipush (v := 99) o_Rd_readTownLine_140 (by decide) ?_
        refine q2_callVi _ (a := 4) (As := [.ref p0, .ref (p0 + 10), .int 99]) (st := []) hs o_Rd_readTownLine_142 k_Rd_75 rfl rfl (Nat.le_of_ble_eq_true rfl) h38 (fun x42 σ40 hs41 h39 => ?_)
        exact q_zre o_Rd_readTownLine_145 rfl h39.1 h39.2
      · have h43 := h12.2.2.2.2.2.2.1 (by simpa using hx)
        refine q_tabIn (tgt := 146) (off := 112) o_Rd_readTownLine_34 c1 c2 (by rw [show (q_smap.getD k6 0).toInt = 19 by simpa using hx]; rfl) (by decide) ?_
        refine q_aload_n o_Rd_readTownLine_146 rfl ?_
        refine q_aload_n o_Rd_readTownLine_147 rfl ?_
        refine q2_callVi _ (a := 4) (As := [.ref p0]) (st := []) hs o_Rd_readTownLine_148 k_Rd_85 rfl rfl (Nat.le_of_ble_eq_true rfl) h43 (fun x47 σ45 hs46 h44 => ?_)
        exact q_zre o_Rd_readTownLine_151 rfl h44.1 h44.2
      · have h48 := h12.2.2.2.2.2.2.2.1 (by simpa using hx)
        refine q_tabIn (tgt := 152) (off := 118) o_Rd_readTownLine_34 c1 c2 (by rw [show (q_smap.getD k6 0).toInt = 20 by simpa using hx]; rfl) (by decide) ?_
        refine q_aload_n o_Rd_readTownLine_152 rfl ?_
        refine q_aload_n o_Rd_readTownLine_153 rfl ?_
        refine q2_callVi _ (a := 4) (As := [.ref p0]) (st := []) hs o_Rd_readTownLine_154 k_Rd_88 rfl rfl (Nat.le_of_ble_eq_true rfl) h48 (fun x52 σ50 hs51 h49 => ?_)
        exact q_zre o_Rd_readTownLine_157 rfl h49.1 h49.2
      · have h53 := h12.2.2.2.2.2.2.2.2.1 (by simpa using hx)
        refine q_tabIn (tgt := 158) (off := 124) o_Rd_readTownLine_34 c1 c2 (by rw [show (q_smap.getD k6 0).toInt = 21 by simpa using hx]; rfl) (by decide) ?_
        refine q_aload_n o_Rd_readTownLine_158 rfl ?_
        refine q_aload_n o_Rd_readTownLine_159 rfl ?_
        refine q_iconst (v := 0) o_Rd_readTownLine_160 (by decide) ?_
        refine q2_callVi _ (a := 4) (As := [.ref p0, .int 0]) (st := []) hs o_Rd_readTownLine_161 k_Rd_93 rfl rfl (Nat.le_of_ble_eq_true rfl) h53 (fun x57 σ55 hs56 h54 => ?_)
        exact q_zre o_Rd_readTownLine_164 rfl h54.1 h54.2
      · have h58 := h12.2.2.2.2.2.2.2.2.2.1 (by simpa using hx)
        refine q_tabIn (tgt := 165) (off := 131) o_Rd_readTownLine_34 c1 c2 (by rw [show (q_smap.getD k6 0).toInt = 22 by simpa using hx]; rfl) (by decide) ?_
        refine q_aload_n o_Rd_readTownLine_165 rfl ?_
        refine q_aload_n o_Rd_readTownLine_166 rfl ?_
        refine q_iconst (v := 1) o_Rd_readTownLine_167 (by decide) ?_
        refine q2_callVi _ (a := 4) (As := [.ref p0, .int 1]) (st := []) hs o_Rd_readTownLine_168 k_Rd_93 rfl rfl (Nat.le_of_ble_eq_true rfl) h58 (fun x62 σ60 hs61 h59 => ?_)
        exact q_zre o_Rd_readTownLine_171 rfl h59.1 h59.2
      · have h63 := h12.2.2.2.2.2.2.2.2.2.2 (by simpa using hx)
        refine q_tabIn (tgt := 172) (off := 138) o_Rd_readTownLine_34 c1 c2 (by rw [show (q_smap.getD k6 0).toInt = 23 by simpa using hx]; rfl) (by decide) ?_
        refine q_aload_n o_Rd_readTownLine_172 rfl ?_
        refine q_aload_n o_Rd_readTownLine_173 rfl ?_
        refine q_iconst (v := 2) o_Rd_readTownLine_174 (by decide) ?_
        refine q2_callVi _ (a := 4) (As := [.ref p0, .int 2]) (st := []) hs o_Rd_readTownLine_175 k_Rd_93 rfl rfl (Nat.le_of_ble_eq_true rfl) h63 (fun x67 σ65 hs66 h64 => ?_)
        exact q_zre o_Rd_readTownLine_178 rfl h64.1 h64.2
  · have h68 := h.2 c1
    refine q_aload_n o_Rd_readTownLine_11 rfl ?_
    refine q2_getR hs o_Rd_readTownLine_12 f_Rd_9 rfl (fz_4_0 hs) ?_
    refine q_iconst (v := 1) o_Rd_readTownLine_15 (by decide) ?_
    refine q2_callVi _ (a := 3) (As := [.int 1]) (st := []) hs o_Rd_readTownLine_16 k_Rd_43 rfl rfl (Nat.le_of_ble_eq_true rfl) h68 (fun x72 σ70 hs71 h69 => ?_)
    exact q_zre o_Rd_readTownLine_19 rfl h69.1 h69.2

set_option maxRecDepth 20000 in
theorem v_Rd_readHouse_0 {G : q_G} {d : Nat} {σ : q_S} {Q : Option Value → q_S → Prop} {p0 : Nat} (hp0 : q_isTw p0) (hs : q_Sh σ) (h : (((q_I σ p0 13) < 6 → q_Call G d 0 0 X_Tk_advance [.ref 3] σ (q_rv (fun σ4 => q_Call G d 0 0 X_Rd_isNewName [.ref 4, .ref p0] σ4 (q_ri (fun x9 σ7 => ((¬ x9 = 0 → (∃ k13, (q_I σ7 p0 13) = nI k13 ∧ k13 < 6 ∧ q_Call G d 0 0 X_Tk_advance [.ref 3] (q_setI (q_setL σ7 (p0 + 1) k13 (q_L σ7 3 5)) p0 13 ((q_I (q_setL σ7 (p0 + 1) k13 (q_L σ7 3 5)) p0 13) + 1)) (q_rv (fun σ15 => Q (some (.int 1)) σ15)))) ∧ (x9 = 0 → Q (some (.int 0)) σ7))))))) ∧ (¬ (q_I σ p0 13) < 6 → q_Call G d 0 0 X_Tk_refuse [.ref 3, .int 5] σ (q_ri (fun x22 σ20 => (narrow .boolean (.int x22) = .int x22 ∧ Q (some (.int x22)) σ20)))))) : q_At G X_Rd_readHouse (d + 1) 0 0 0 [some (.ref 4), some (.ref p0)] [] σ Q := by
  refine q_aload_n o_Rd_readHouse_0 rfl ?_
  refine q2_getI hs o_Rd_readHouse_1 f_Rd_97 (kd_Tw_0 hp0) ?_
  refine q_bipush (v := 6) o_Rd_readHouse_4 (by decide) ?_
  refine q_icmp_lt o_Rd_readHouse_6 (fun c1 => ?_) (fun c1 => ?_)
  · have h2 := h.1 c1
    refine q_aload_n o_Rd_readHouse_18 rfl ?_
    refine q2_getR hs o_Rd_readHouse_19 f_Rd_9 rfl (fz_4_0 hs) ?_
    refine q2_callVv _ (a := 3) (As := []) (st := []) hs o_Rd_readHouse_22 k_Rd_100 rfl rfl (Nat.le_of_ble_eq_true rfl) h2 (fun σ4 hs5 h3 => ?_)
    refine q_aload_n o_Rd_readHouse_25 rfl ?_
    refine q_aload_n o_Rd_readHouse_26 rfl ?_
    refine q2_callVi _ (a := 4) (As := [.ref p0]) (st := []) hs5 o_Rd_readHouse_27 k_Rd_103 rfl rfl (Nat.le_of_ble_eq_true rfl) h3 (fun x9 σ7 hs8 h6 => ?_)
    refine q_if_ne o_Rd_readHouse_30 (fun c10 => ?_) (fun c10 => ?_)
    · have h11 := h6.1 c10
      refine q_aload_n o_Rd_readHouse_35 rfl ?_
      refine q2_getR hs8 o_Rd_readHouse_36 f_Rd_106 (kd_Tw_0 hp0) (fz_Tw_0 hs8 hp0) ?_
      refine q_aload_n o_Rd_readHouse_39 rfl ?_
      refine q2_getI hs8 o_Rd_readHouse_40 f_Rd_97 (kd_Tw_0 hp0) ?_
      refine q_aload_n o_Rd_readHouse_43 rfl ?_
      refine q2_getR hs8 o_Rd_readHouse_44 f_Rd_9 rfl (fz_4_0 hs8) ?_
      refine q2_getL hs8 o_Rd_readHouse_47 f_Rd_110 rfl ?_
      obtain ⟨k13, eh12, bh12, h12⟩ := h11
      refine q2_last hs8 o_Rd_readHouse_50 (kd_Tw_1 hp0) eh12 bh12 (by decide) ?_
      refine q_aload_n o_Rd_readHouse_51 rfl ?_
      refine q_dup o_Rd_readHouse_52 rfl ?_
      refine q2_getI hs8 o_Rd_readHouse_53 f_Rd_97 (kd_Tw_0 hp0) ?_
      refine q_iconst (v := 1) o_Rd_readHouse_56 (by decide) ?_
      refine q_iadd o_Rd_readHouse_57 ?_
      refine q2_putI hs8 o_Rd_readHouse_58 fp_Rd_97 (kd_Tw_0 hp0) rfl rfl ?_
      refine q_aload_n o_Rd_readHouse_61 rfl ?_
      refine q2_getR hs8 o_Rd_readHouse_62 f_Rd_9 rfl (fz_4_0 hs8) ?_
      refine q2_callVv _ (a := 3) (As := []) (st := []) hs8 o_Rd_readHouse_65 k_Rd_100 rfl rfl (Nat.le_of_ble_eq_true rfl) h12 (fun σ15 hs16 h14 => ?_)
      refine q_iconst (v := 1) o_Rd_readHouse_68 (by decide) ?_
      exact q_zre o_Rd_readHouse_69 rfl rfl h14
    · have h17 := h6.2 c10
      refine q_iconst (v := 0) o_Rd_readHouse_33 (by decide) ?_
      exact q_zre o_Rd_readHouse_34 rfl rfl h17
  · have h18 := h.2 c1
    refine q_aload_n o_Rd_readHouse_9 rfl ?_
    refine q2_getR hs o_Rd_readHouse_10 f_Rd_9 rfl (fz_4_0 hs) ?_
    refine q_iconst (v := 5) o_Rd_readHouse_13 (by decide) ?_
    refine q2_callVi _ (a := 3) (As := [.int 5]) (st := []) hs o_Rd_readHouse_14 k_Rd_43 rfl rfl (Nat.le_of_ble_eq_true rfl) h18 (fun x22 σ20 hs21 h19 => ?_)
    exact q_zre o_Rd_readHouse_17 rfl h19.1 h19.2

set_option maxRecDepth 20000 in
theorem v_Rd_readWall_0 {G : q_G} {d : Nat} {σ : q_S} {Q : Option Value → q_S → Prop} {p0 : Nat} (hp0 : q_isTw p0) (hs : q_Sh σ) (h : q_Call G d 0 0 X_Tk_advance [.ref 3] σ (q_rv (fun σ2 => q_Call G d 0 0 X_Rd_readTwo [.ref 4, .ref p0, .int 1] σ2 (q_ri (fun x7 σ5 => ((¬ x7 = 0 → (∃ k11, (((q_I σ5 4 1) * 6) + (q_I σ5 4 2)) = nI k11 ∧ k11 < 36 ∧ (((q_I σ5 (p0 + 7) k11) = 0 → q_Call G d 0 0 X_Tk_advance [.ref 3] σ5 (q_rv (fun σ15 => q_Call G d 0 0 X_Tk_takeNumber [.ref 3, .int 1, .int 9] σ15 (q_ri (fun x20 σ18 => ((¬ x20 = 0 → (∃ k24, (((q_I σ5 4 1) * 6) + (q_I σ5 4 2)) = nI k24 ∧ k24 < 36 ∧ (∃ k26, (((q_I (q_setI σ18 (p0 + 7) k24 (q_I σ18 3 8)) 4 2) * 6) + (q_I (q_setI σ18 (p0 + 7) k24 (q_I σ18 3 8)) 4 1)) = nI k26 ∧ k26 < 36 ∧ Q (some (.int 1)) (q_setI (q_setI (q_setI σ18 (p0 + 7) k24 (q_I σ18 3 8)) (p0 + 7) k26 (q_I (q_setI σ18 (p0 + 7) k24 (q_I σ18 3 8)) 3 8)) p0 15 ((q_I (q_setI (q_setI σ18 (p0 + 7) k24 (q_I σ18 3 8)) (p0 + 7) k26 (q_I (q_setI σ18 (p0 + 7) k24 (q_I σ18 3 8)) 3 8)) p0 15) + 1))))) ∧ (x20 = 0 → Q (some (.int 0)) σ18))))))) ∧ (¬ (q_I σ5 (p0 + 7) k11) = 0 → q_Call G d 0 0 X_Tk_refuse [.ref 3, .int 3] σ5 (q_ri (fun x32 σ30 => (narrow .boolean (.int x32) = .int x32 ∧ Q (some (.int x32)) σ30))))))) ∧ (x7 = 0 → Q (some (.int 0)) σ5))))))) : q_At G X_Rd_readWall (d + 1) 0 0 0 [some (.ref 4), some (.ref p0), none] [] σ Q := by
  refine q_aload_n o_Rd_readWall_0 rfl ?_
  refine q2_getR hs o_Rd_readWall_1 f_Rd_9 rfl (fz_4_0 hs) ?_
  refine q2_callVv _ (a := 3) (As := []) (st := []) hs o_Rd_readWall_4 k_Rd_100 rfl rfl (Nat.le_of_ble_eq_true rfl) h (fun σ2 hs3 h1 => ?_)
  refine q_aload_n o_Rd_readWall_7 rfl ?_
  refine q_aload_n o_Rd_readWall_8 rfl ?_
  refine q_iconst (v := 1) o_Rd_readWall_9 (by decide) ?_
  refine q2_callVi _ (a := 4) (As := [.ref p0, .int 1]) (st := []) hs3 o_Rd_readWall_10 k_Rd_114 rfl rfl (Nat.le_of_ble_eq_true rfl) h1 (fun x7 σ5 hs6 h4 => ?_)
  refine q_if_ne o_Rd_readWall_13 (fun c8 => ?_) (fun c8 => ?_)
  · have h9 := h4.1 c8
    refine q_aload_n o_Rd_readWall_18 rfl ?_
    refine q2_getI hs6 o_Rd_readWall_19 f_Rd_118 rfl ?_
    refine q_bipush (v := 6) o_Rd_readWall_22 (by decide) ?_
    refine q_imul o_Rd_readWall_24 ?_
    refine q_aload_n o_Rd_readWall_25 rfl ?_
    refine q2_getI hs6 o_Rd_readWall_26 f_Rd_121 rfl ?_
    refine q_iadd o_Rd_readWall_29 ?_
    refine q2_istn (ls' := [some (.ref 4), some (.ref p0), some (.int (((q_I σ5 4 1) * 6) + (q_I σ5 4 2)))]) o_Rd_readWall_30 (Nat.le_of_ble_eq_true rfl) rfl ?_
    refine q_aload_n o_Rd_readWall_31 rfl ?_
    refine q2_getR hs6 o_Rd_readWall_32 f_Rd_124 (kd_Tw_0 hp0) (fz_Tw_6 hs6 hp0) ?_
    refine q_iload_n o_Rd_readWall_35 rfl ?_
    obtain ⟨k11, eh10, bh10, h10⟩ := h9
    refine q2_iald hs6 o_Rd_readWall_36 (kd_Tw_7 hp0) eh10 bh10 (by decide) ?_
    refine q_if_eq o_Rd_readWall_37 (fun c12 => ?_) (fun c12 => ?_)
    · have h13 := h10.1 c12
      refine q_aload_n o_Rd_readWall_49 rfl ?_
      refine q2_getR hs6 o_Rd_readWall_50 f_Rd_9 rfl (fz_4_0 hs6) ?_
      refine q2_callVv _ (a := 3) (As := []) (st := []) hs6 o_Rd_readWall_53 k_Rd_100 rfl rfl (Nat.le_of_ble_eq_true rfl) h13 (fun σ15 hs16 h14 => ?_)
      refine q_aload_n o_Rd_readWall_56 rfl ?_
      refine q2_getR hs16 o_Rd_readWall_57 f_Rd_9 rfl (fz_4_0 hs16) ?_
      refine q_iconst (v := 1) o_Rd_readWall_60 (by decide) ?_
      refine q_bipush (v := 9) o_Rd_readWall_61 (by decide) ?_
      refine q2_callVi _ (a := 3) (As := [.int 1, .int 9]) (st := []) hs16 o_Rd_readWall_63 k_Rd_127 rfl rfl (Nat.le_of_ble_eq_true rfl) h14 (fun x20 σ18 hs19 h17 => ?_)
      refine q_if_ne o_Rd_readWall_66 (fun c21 => ?_) (fun c21 => ?_)
      · have h22 := h17.1 c21
        refine q_aload_n o_Rd_readWall_71 rfl ?_
        refine q2_getR hs19 o_Rd_readWall_72 f_Rd_124 (kd_Tw_0 hp0) (fz_Tw_6 hs19 hp0) ?_
        refine q_iload_n o_Rd_readWall_75 rfl ?_
        refine q_aload_n o_Rd_readWall_76 rfl ?_
        refine q2_getR hs19 o_Rd_readWall_77 f_Rd_9 rfl (fz_4_0 hs19) ?_
        refine q2_getI hs19 o_Rd_readWall_80 f_Rd_131 rfl ?_
        obtain ⟨k24, eh23, bh23, h23⟩ := h22
        refine q2_iast hs19 o_Rd_readWall_83 (kd_Tw_7 hp0) eh23 bh23 (by decide) ?_
        refine q_aload_n o_Rd_readWall_84 rfl ?_
        refine q2_getR hs19 o_Rd_readWall_85 f_Rd_124 (kd_Tw_0 hp0) (fz_Tw_6 hs19 hp0) ?_
        refine q_aload_n o_Rd_readWall_88 rfl ?_
        refine q2_getI hs19 o_Rd_readWall_89 f_Rd_121 rfl ?_
        refine q_bipush (v := 6) o_Rd_readWall_92 (by decide) ?_
        refine q_imul o_Rd_readWall_94 ?_
        refine q_aload_n o_Rd_readWall_95 rfl ?_
        refine q2_getI hs19 o_Rd_readWall_96 f_Rd_118 rfl ?_
        refine q_iadd o_Rd_readWall_99 ?_
        refine q_aload_n o_Rd_readWall_100 rfl ?_
        refine q2_getR hs19 o_Rd_readWall_101 f_Rd_9 rfl (fz_4_0 hs19) ?_
        refine q2_getI hs19 o_Rd_readWall_104 f_Rd_131 rfl ?_
        obtain ⟨k26, eh25, bh25, h25⟩ := h23
        refine q2_iast hs19 o_Rd_readWall_107 (kd_Tw_7 hp0) eh25 bh25 (by decide) ?_
        refine q_aload_n o_Rd_readWall_108 rfl ?_
        refine q_dup o_Rd_readWall_109 rfl ?_
        refine q2_getI hs19 o_Rd_readWall_110 f_Rd_134 (kd_Tw_0 hp0) ?_
        refine q_iconst (v := 1) o_Rd_readWall_113 (by decide) ?_
        refine q_iadd o_Rd_readWall_114 ?_
        refine q2_putI hs19 o_Rd_readWall_115 fp_Rd_134 (kd_Tw_0 hp0) rfl rfl ?_
        refine q_iconst (v := 1) o_Rd_readWall_118 (by decide) ?_
        exact q_zre o_Rd_readWall_119 rfl rfl h25
      · have h27 := h17.2 c21
        refine q_iconst (v := 0) o_Rd_readWall_69 (by decide) ?_
        exact q_zre o_Rd_readWall_70 rfl rfl h27
    · have h28 := h10.2 c12
      refine q_aload_n o_Rd_readWall_40 rfl ?_
      refine q2_getR hs6 o_Rd_readWall_41 f_Rd_9 rfl (fz_4_0 hs6) ?_
      refine q_iconst (v := 3) o_Rd_readWall_44 (by decide) ?_
      refine q2_callVi _ (a := 3) (As := [.int 3]) (st := []) hs6 o_Rd_readWall_45 k_Rd_43 rfl rfl (Nat.le_of_ble_eq_true rfl) h28 (fun x32 σ30 hs31 h29 => ?_)
      exact q_zre o_Rd_readWall_48 rfl h29.1 h29.2
  · have h33 := h4.2 c8
    refine q_iconst (v := 0) o_Rd_readWall_16 (by decide) ?_
    exact q_zre o_Rd_readWall_17 rfl rfl h33

set_option maxRecDepth 20000 in
theorem v_Rd_readFamily_0 {G : q_G} {d : Nat} {σ : q_S} {Q : Option Value → q_S → Prop} {p0 : Nat} (hp0 : q_isTw p0) (hs : q_Sh σ) (h : (((q_I σ p0 13) ≤ (q_I σ p0 14) → q_Call G d 0 0 X_Tk_refuse [.ref 3, .int 5] σ (q_ri (fun x6 σ4 => (narrow .boolean (.int x6) = .int x6 ∧ Q (some (.int x6)) σ4)))) ∧ (¬ (q_I σ p0 13) ≤ (q_I σ p0 14) → (((q_I σ p0 14) < 6 → q_Call G d 0 0 X_Tk_advance [.ref 3] σ (q_rv (fun σ11 => q_Call G d 0 0 X_Rd_isNewName [.ref 4, .ref p0] σ11 (q_ri (fun x16 σ14 => ((¬ x16 = 0 → (∃ k20, (q_I σ p0 14) = nI k20 ∧ k20 < 6 ∧ q_Call G d 0 0 X_Tk_advance [.ref 3] (q_setL σ14 (p0 + 2) k20 (q_L σ14 3 5)) (q_rv (fun σ22 => q_Call G d 0 0 X_Tk_kindHere [.ref 3] σ22 (q_ri (fun x27 σ25 => ((¬ x27 = (-1) → (∃ k31, (q_I σ p0 14) = nI k31 ∧ k31 < 6 ∧ q_Call G d 0 0 X_Tk_advance [.ref 3] (q_setI σ25 (p0 + 3) k31 x27) (q_rv (fun σ33 => q_Call G d 0 0 X_Rd_readTrait [.ref 4, .ref (1001 + 3), .int 9, .ref (p0 + 4), .int (q_I σ p0 14)] σ33 (q_ri (fun x38 σ36 => ((x38 = 0 → Q (some (.int 0)) σ36) ∧ (¬ x38 = 0 → q_Call G d 0 0 X_Rd_readTrait [.ref 4, .ref (1001 + 4), .int 9, .ref (p0 + 5), .int (q_I σ p0 14)] σ36 (q_ri (fun x45 σ43 => ((x45 = 0 → Q (some (.int 0)) σ43) ∧ (¬ x45 = 0 → q_Call G d 0 0 X_Rd_readTrait [.ref 4, .ref (1001 + 5), .int 999, .ref (p0 + 6), .int (q_I σ p0 14)] σ43 (q_ri (fun x52 σ50 => ((¬ x52 = 0 → Q (some (.int 1)) (q_setI σ50 p0 14 ((q_I σ50 p0 14) + 1))) ∧ (x52 = 0 → Q (some (.int 0)) σ50)))))))))))))))) ∧ (x27 = (-1) → q_Call G d 0 0 X_Tk_refuse [.ref 3, .int 1] σ25 (q_ri (fun x60 σ58 => (narrow .boolean (.int x60) = .int x60 ∧ Q (some (.int x60)) σ58))))))))))) ∧ (x16 = 0 → Q (some (.int 0)) σ14))))))) ∧ (¬ (q_I σ p0 14) < 6 → q_Call G d 0 0 X_Tk_refuse [.ref 3, .int 5] σ (q_ri (fun x66 σ64 => (narrow .boolean (.int x66) = .int x66 ∧ Q (some (.int x66)) σ64)))))))) : q_At G X_Rd_readFamily (d + 1) 0 0 0 [some (.ref 4), some (.ref p0), none, none] [] σ Q := by
  refine q_aload_n o_Rd_readFamily_0 rfl ?_
  refine q2_getI hs o_Rd_readFamily_1 f_Rd_137 (kd_Tw_0 hp0) ?_
  refine q2_istn (ls' := [some (.ref 4), some (.ref p0), some (.int (q_I σ p0 14)), none]) o_Rd_readFamily_4 (Nat.le_of_ble_eq_true rfl) rfl ?_
  refine q_iload_n o_Rd_readFamily_5 rfl ?_
  refine q_aload_n o_Rd_readFamily_6 rfl ?_
  refine q2_getI hs o_Rd_readFamily_7 f_Rd_97 (kd_Tw_0 hp0) ?_
  refine q_icmp_ge o_Rd_readFamily_10 (fun c1 => ?_) (fun c1 => ?_)
  · have h2 := h.1 c1
    refine q_aload_n o_Rd_readFamily_19 rfl ?_
    refine q2_getR hs o_Rd_readFamily_20 f_Rd_9 rfl (fz_4_0 hs) ?_
    refine q_iconst (v := 5) o_Rd_readFamily_23 (by decide) ?_
    refine q2_callVi _ (a := 3) (As := [.int 5]) (st := []) hs o_Rd_readFamily_24 k_Rd_43 rfl rfl (Nat.le_of_ble_eq_true rfl) h2 (fun x6 σ4 hs5 h3 => ?_)
    exact q_zre o_Rd_readFamily_27 rfl h3.1 h3.2
  · have h7 := h.2 c1
    refine q_iload_n o_Rd_readFamily_13 rfl ?_
    refine q_bipush (v := 6) o_Rd_readFamily_14 (by decide) ?_
    refine q_icmp_lt o_Rd_readFamily_16 (fun c8 => ?_) (fun c8 => ?_)
    · have h9 := h7.1 c8
      refine q_aload_n o_Rd_readFamily_28 rfl ?_
      refine q2_getR hs o_Rd_readFamily_29 f_Rd_9 rfl (fz_4_0 hs) ?_
      refine q2_callVv _ (a := 3) (As := []) (st := []) hs o_Rd_readFamily_32 k_Rd_100 rfl rfl (Nat.le_of_ble_eq_true rfl) h9 (fun σ11 hs12 h10 => ?_)
      refine q_aload_n o_Rd_readFamily_35 rfl ?_
      refine q_aload_n o_Rd_readFamily_36 rfl ?_
      refine q2_callVi _ (a := 4) (As := [.ref p0]) (st := []) hs12 o_Rd_readFamily_37 k_Rd_103 rfl rfl (Nat.le_of_ble_eq_true rfl) h10 (fun x16 σ14 hs15 h13 => ?_)
      refine q_if_ne o_Rd_readFamily_40 (fun c17 => ?_) (fun c17 => ?_)
      · have h18 := h13.1 c17
        refine q_aload_n o_Rd_readFamily_45 rfl ?_
        refine q2_getR hs15 o_Rd_readFamily_46 f_Rd_140 (kd_Tw_0 hp0) (fz_Tw_1 hs15 hp0) ?_
        refine q_iload_n o_Rd_readFamily_49 rfl ?_
        refine q_aload_n o_Rd_readFamily_50 rfl ?_
        refine q2_getR hs15 o_Rd_readFamily_51 f_Rd_9 rfl (fz_4_0 hs15) ?_
        refine q2_getL hs15 o_Rd_readFamily_54 f_Rd_110 rfl ?_
        obtain ⟨k20, eh19, bh19, h19⟩ := h18
        refine q2_last hs15 o_Rd_readFamily_57 (kd_Tw_2 hp0) eh19 bh19 (by decide) ?_
        refine q_aload_n o_Rd_readFamily_58 rfl ?_
        refine q2_getR hs15 o_Rd_readFamily_59 f_Rd_9 rfl (fz_4_0 hs15) ?_
        refine q2_callVv _ (a := 3) (As := []) (st := []) hs15 o_Rd_readFamily_62 k_Rd_100 rfl rfl (Nat.le_of_ble_eq_true rfl) h19 (fun σ22 hs23 h21 => ?_)
        refine q_aload_n o_Rd_readFamily_65 rfl ?_
        refine q2_getR hs23 o_Rd_readFamily_66 f_Rd_9 rfl (fz_4_0 hs23) ?_
        refine q2_callVi _ (a := 3) (As := []) (st := []) hs23 o_Rd_readFamily_69 k_Rd_143 rfl rfl (Nat.le_of_ble_eq_true rfl) h21 (fun x27 σ25 hs26 h24 => ?_)
        refine q2_istn (ls' := [some (.ref 4), some (.ref p0), some (.int (q_I σ p0 14)), some (.int x27)]) o_Rd_readFamily_72 (Nat.le_of_ble_eq_true rfl) rfl ?_
        refine q_iload_n o_Rd_readFamily_73 rfl ?_
        refine q_iconst (v := (-1)) o_Rd_readFamily_74 (by decide) ?_
        refine q_icmp_ne o_Rd_readFamily_75 (fun c28 => ?_) (fun c28 => ?_)
        · have h29 := h24.1 c28
          refine q_aload_n o_Rd_readFamily_87 rfl ?_
          refine q2_getR hs26 o_Rd_readFamily_88 f_Rd_146 (kd_Tw_0 hp0) (fz_Tw_2 hs26 hp0) ?_
          refine q_iload_n o_Rd_readFamily_91 rfl ?_
          refine q_iload_n o_Rd_readFamily_92 rfl ?_
          obtain ⟨k31, eh30, bh30, h30⟩ := h29
          refine q2_iast hs26 o_Rd_readFamily_93 (kd_Tw_3 hp0) eh30 bh30 (by decide) ?_
          refine q_aload_n o_Rd_readFamily_94 rfl ?_
          refine q2_getR hs26 o_Rd_readFamily_95 f_Rd_9 rfl (fz_4_0 hs26) ?_
          refine q2_callVv _ (a := 3) (As := []) (st := []) hs26 o_Rd_readFamily_98 k_Rd_100 rfl rfl (Nat.le_of_ble_eq_true rfl) h30 (fun σ33 hs34 h32 => ?_)
          refine q_aload_n o_Rd_readFamily_101 rfl ?_
          refine q_gets (w := .ref (1001 + 3)) o_Rd_readFamily_102 s_Rd_149 (fun U H hh => (hh.1 3 (by decide)).1) ?_
          refine q_bipush (v := 9) o_Rd_readFamily_105 (by decide) ?_
          refine q_aload_n o_Rd_readFamily_107 rfl ?_
          refine q2_getR hs34 o_Rd_readFamily_108 f_Rd_152 (kd_Tw_0 hp0) (fz_Tw_3 hs34 hp0) ?_
          refine q_iload_n o_Rd_readFamily_111 rfl ?_
          refine q2_callVi _ (a := 4) (As := [.ref (1001 + 3), .int 9, .ref (p0 + 4), .int (q_I σ p0 14)]) (st := []) hs34 o_Rd_readFamily_112 k_Rd_155 rfl rfl (Nat.le_of_ble_eq_true rfl) h32 (fun x38 σ36 hs37 h35 => ?_)
          refine q_if_eq o_Rd_readFamily_115 (fun c39 => ?_) (fun c39 => ?_)
          · have h40 := h35.1 c39
            refine q_iconst (v := 0) o_Rd_readFamily_153 (by decide) ?_
            exact q_zre o_Rd_readFamily_154 rfl rfl h40
          · have h41 := h35.2 c39
            refine q_aload_n o_Rd_readFamily_118 rfl ?_
            refine q_gets (w := .ref (1001 + 4)) o_Rd_readFamily_119 s_Rd_159 (fun U H hh => (hh.1 4 (by decide)).1) ?_
            refine q_bipush (v := 9) o_Rd_readFamily_122 (by decide) ?_
            refine q_aload_n o_Rd_readFamily_124 rfl ?_
            refine q2_getR hs37 o_Rd_readFamily_125 f_Rd_162 (kd_Tw_0 hp0) (fz_Tw_4 hs37 hp0) ?_
            refine q_iload_n o_Rd_readFamily_128 rfl ?_
            refine q2_callVi _ (a := 4) (As := [.ref (1001 + 4), .int 9, .ref (p0 + 5), .int (q_I σ p0 14)]) (st := []) hs37 o_Rd_readFamily_129 k_Rd_155 rfl rfl (Nat.le_of_ble_eq_true rfl) h41 (fun x45 σ43 hs44 h42 => ?_)
            refine q_if_eq o_Rd_readFamily_132 (fun c46 => ?_) (fun c46 => ?_)
            · have h47 := h42.1 c46
              refine q_iconst (v := 0) o_Rd_readFamily_153 (by decide) ?_
              exact q_zre o_Rd_readFamily_154 rfl rfl h47
            · have h48 := h42.2 c46
              refine q_aload_n o_Rd_readFamily_135 rfl ?_
              refine q_gets (w := .ref (1001 + 5)) o_Rd_readFamily_136 s_Rd_165 (fun U H hh => (hh.1 5 (by decide)).1) ?_
              refine q_sipush (v := 999) o_Rd_readFamily_139 (by decide) ?_
              refine q_aload_n o_Rd_readFamily_142 rfl ?_
              refine q2_getR hs44 o_Rd_readFamily_143 f_Rd_168 (kd_Tw_0 hp0) (fz_Tw_5 hs44 hp0) ?_
              refine q_iload_n o_Rd_readFamily_146 rfl ?_
              refine q2_callVi _ (a := 4) (As := [.ref (1001 + 5), .int 999, .ref (p0 + 6), .int (q_I σ p0 14)]) (st := []) hs44 o_Rd_readFamily_147 k_Rd_155 rfl rfl (Nat.le_of_ble_eq_true rfl) h48 (fun x52 σ50 hs51 h49 => ?_)
              refine q_if_ne o_Rd_readFamily_150 (fun c53 => ?_) (fun c53 => ?_)
              · have h54 := h49.1 c53
                refine q_aload_n o_Rd_readFamily_155 rfl ?_
                refine q_dup o_Rd_readFamily_156 rfl ?_
                refine q2_getI hs51 o_Rd_readFamily_157 f_Rd_137 (kd_Tw_0 hp0) ?_
                refine q_iconst (v := 1) o_Rd_readFamily_160 (by decide) ?_
                refine q_iadd o_Rd_readFamily_161 ?_
                refine q2_putI hs51 o_Rd_readFamily_162 fp_Rd_137 (kd_Tw_0 hp0) rfl rfl ?_
                refine q_iconst (v := 1) o_Rd_readFamily_165 (by decide) ?_
                exact q_zre o_Rd_readFamily_166 rfl rfl h54
              · have h55 := h49.2 c53
                refine q_iconst (v := 0) o_Rd_readFamily_153 (by decide) ?_
                exact q_zre o_Rd_readFamily_154 rfl rfl h55
        · have h56 := h24.2 c28
          refine q_aload_n o_Rd_readFamily_78 rfl ?_
          refine q2_getR hs26 o_Rd_readFamily_79 f_Rd_9 rfl (fz_4_0 hs26) ?_
          refine q_iconst (v := 1) o_Rd_readFamily_82 (by decide) ?_
          refine q2_callVi _ (a := 3) (As := [.int 1]) (st := []) hs26 o_Rd_readFamily_83 k_Rd_43 rfl rfl (Nat.le_of_ble_eq_true rfl) h56 (fun x60 σ58 hs59 h57 => ?_)
          exact q_zre o_Rd_readFamily_86 rfl h57.1 h57.2
      · have h61 := h13.2 c17
        refine q_iconst (v := 0) o_Rd_readFamily_43 (by decide) ?_
        exact q_zre o_Rd_readFamily_44 rfl rfl h61
    · have h62 := h7.2 c8
      refine q_aload_n o_Rd_readFamily_19 rfl ?_
      refine q2_getR hs o_Rd_readFamily_20 f_Rd_9 rfl (fz_4_0 hs) ?_
      refine q_iconst (v := 5) o_Rd_readFamily_23 (by decide) ?_
      refine q2_callVi _ (a := 3) (As := [.int 5]) (st := []) hs o_Rd_readFamily_24 k_Rd_43 rfl rfl (Nat.le_of_ble_eq_true rfl) h62 (fun x66 σ64 hs65 h63 => ?_)
      exact q_zre o_Rd_readFamily_27 rfl h63.1 h63.2

set_option maxRecDepth 20000 in
theorem v_Rd_readTrait_0 {G : q_G} {d : Nat} {σ : q_S} {Q : Option Value → q_S → Prop} {p0 : Nat} {p1 : Int32} {p2 : Nat} {p3 : Int32} (hp0 : p0 < 34) (hp2 : q_kd p2 = (1, 6)) (hs : q_Sh σ) (h : q_Call G d 0 0 X_Tk_takeWord [.ref 3, .ref (1001 + p0)] σ (q_ri (fun x4 σ2 => ((x4 = 0 → Q (some (.int 0)) σ2) ∧ (¬ x4 = 0 → q_Call G d 0 0 X_Tk_takeNumber [.ref 3, .int 0, .int p1] σ2 (q_ri (fun x11 σ9 => ((¬ x11 = 0 → ((p3 < 0 → Q (some (.int 1)) σ9) ∧ (¬ p3 < 0 → (((nI 6) ≤ p3 → Q (some (.int 1)) σ9) ∧ (¬ (nI 6) ≤ p3 → (∃ k21, p3 = nI k21 ∧ k21 < 6 ∧ Q (some (.int 1)) (q_setI σ9 p2 k21 (q_I σ9 3 8)))))))) ∧ (x11 = 0 → Q (some (.int 0)) σ9))))))))) : q_At G X_Rd_readTrait (d + 1) 0 0 0 [some (.ref 4), some (.ref (1001 + p0)), some (.int p1), some (.ref p2), some (.int p3)] [] σ Q := by
  refine q_aload_n o_Rd_readTrait_0 rfl ?_
  refine q2_getR hs o_Rd_readTrait_1 f_Rd_9 rfl (fz_4_0 hs) ?_
  refine q_aload_n o_Rd_readTrait_4 rfl ?_
  refine q2_callVi _ (a := 3) (As := [.ref (1001 + p0)]) (st := []) hs o_Rd_readTrait_5 k_Rd_171 rfl rfl (Nat.le_of_ble_eq_true rfl) h (fun x4 σ2 hs3 h1 => ?_)
  refine q_if_eq o_Rd_readTrait_8 (fun c5 => ?_) (fun c5 => ?_)
  · have h6 := h1.1 c5
    refine q_iconst (v := 0) o_Rd_readTrait_23 (by decide) ?_
    exact q_zre o_Rd_readTrait_24 rfl rfl h6
  · have h7 := h1.2 c5
    refine q_aload_n o_Rd_readTrait_11 rfl ?_
    refine q2_getR hs3 o_Rd_readTrait_12 f_Rd_9 rfl (fz_4_0 hs3) ?_
    refine q_iconst (v := 0) o_Rd_readTrait_15 (by decide) ?_
    refine q_iload_n o_Rd_readTrait_16 rfl ?_
    refine q2_callVi _ (a := 3) (As := [.int 0, .int p1]) (st := []) hs3 o_Rd_readTrait_17 k_Rd_127 rfl rfl (Nat.le_of_ble_eq_true rfl) h7 (fun x11 σ9 hs10 h8 => ?_)
    refine q_if_ne o_Rd_readTrait_20 (fun c12 => ?_) (fun c12 => ?_)
    · have h13 := h8.1 c12
      refine q_iload o_Rd_readTrait_25 rfl ?_
      refine q_if_lt o_Rd_readTrait_27 (fun c14 => ?_) (fun c14 => ?_)
      · have h15 := h13.1 c14
        refine q_iconst (v := 1) o_Rd_readTrait_48 (by decide) ?_
        exact q_zre o_Rd_readTrait_49 rfl rfl h15
      · have h16 := h13.2 c14
        refine q_iload o_Rd_readTrait_30 rfl ?_
        refine q_aload_n o_Rd_readTrait_32 rfl ?_
        refine q2_alen hs10 o_Rd_readTrait_33 hp2 (by decide) (by decide) ?_
        refine q_icmp_ge o_Rd_readTrait_34 (fun c17 => ?_) (fun c17 => ?_)
        · have h18 := h16.1 c17
          refine q_iconst (v := 1) o_Rd_readTrait_48 (by decide) ?_
          exact q_zre o_Rd_readTrait_49 rfl rfl h18
        · have h19 := h16.2 c17
          refine q_aload_n o_Rd_readTrait_37 rfl ?_
          refine q_iload o_Rd_readTrait_38 rfl ?_
          refine q_aload_n o_Rd_readTrait_40 rfl ?_
          refine q2_getR hs10 o_Rd_readTrait_41 f_Rd_9 rfl (fz_4_0 hs10) ?_
          refine q2_getI hs10 o_Rd_readTrait_44 f_Rd_131 rfl ?_
          obtain ⟨k21, eh20, bh20, h20⟩ := h19
          refine q2_iast hs10 o_Rd_readTrait_47 hp2 eh20 bh20 (by decide) ?_
          refine q_iconst (v := 1) o_Rd_readTrait_48 (by decide) ?_
          exact q_zre o_Rd_readTrait_49 rfl rfl h20
    · have h22 := h8.2 c12
      refine q_iconst (v := 0) o_Rd_readTrait_23 (by decide) ?_
      exact q_zre o_Rd_readTrait_24 rfl rfl h22

set_option maxRecDepth 20000 in
theorem v_Rd_readOfTwo_0 {G : q_G} {d : Nat} {σ : q_S} {Q : Option Value → q_S → Prop} {p0 : Nat} {p1 : Nat} {p2 : Int32} (hp0 : q_isTw p0) (hp1 : q_kd p1 = (1, 36)) (hs : q_Sh σ) (h : q_Call G d 0 0 X_Tk_advance [.ref 3] σ (q_rv (fun σ2 => q_Call G d 0 0 X_Rd_readTwo [.ref 4, .ref p0, .int 0] σ2 (q_ri (fun x7 σ5 => ((¬ x7 = 0 → (∃ k11, (((q_I σ5 4 1) * 6) + (q_I σ5 4 2)) = nI k11 ∧ k11 < 36 ∧ (((q_I σ5 p1 k11) = 0 → q_Call G d 0 0 X_Tk_advance [.ref 3] σ5 (q_rv (fun σ15 => q_Call G d 0 0 X_Tk_takeNumber [.ref 3, .int 1, .int p2] σ15 (q_ri (fun x20 σ18 => ((¬ x20 = 0 → (∃ k24, (((q_I σ5 4 1) * 6) + (q_I σ5 4 2)) = nI k24 ∧ k24 < 36 ∧ Q (some (.int 1)) (q_setI σ18 p1 k24 (q_I σ18 3 8)))) ∧ (x20 = 0 → Q (some (.int 0)) σ18))))))) ∧ (¬ (q_I σ5 p1 k11) = 0 → q_Call G d 0 0 X_Tk_refuse [.ref 3, .int 3] σ5 (q_ri (fun x30 σ28 => (narrow .boolean (.int x30) = .int x30 ∧ Q (some (.int x30)) σ28))))))) ∧ (x7 = 0 → Q (some (.int 0)) σ5))))))) : q_At G X_Rd_readOfTwo (d + 1) 0 0 0 [some (.ref 4), some (.ref p0), some (.ref p1), some (.int p2), none] [] σ Q := by
  refine q_aload_n o_Rd_readOfTwo_0 rfl ?_
  refine q2_getR hs o_Rd_readOfTwo_1 f_Rd_9 rfl (fz_4_0 hs) ?_
  refine q2_callVv _ (a := 3) (As := []) (st := []) hs o_Rd_readOfTwo_4 k_Rd_100 rfl rfl (Nat.le_of_ble_eq_true rfl) h (fun σ2 hs3 h1 => ?_)
  refine q_aload_n o_Rd_readOfTwo_7 rfl ?_
  refine q_aload_n o_Rd_readOfTwo_8 rfl ?_
  refine q_iconst (v := 0) o_Rd_readOfTwo_9 (by decide) ?_
  refine q2_callVi _ (a := 4) (As := [.ref p0, .int 0]) (st := []) hs3 o_Rd_readOfTwo_10 k_Rd_114 rfl rfl (Nat.le_of_ble_eq_true rfl) h1 (fun x7 σ5 hs6 h4 => ?_)
  refine q_if_ne o_Rd_readOfTwo_13 (fun c8 => ?_) (fun c8 => ?_)
  · have h9 := h4.1 c8
    refine q_aload_n o_Rd_readOfTwo_18 rfl ?_
    refine q2_getI hs6 o_Rd_readOfTwo_19 f_Rd_118 rfl ?_
    refine q_bipush (v := 6) o_Rd_readOfTwo_22 (by decide) ?_
    refine q_imul o_Rd_readOfTwo_24 ?_
    refine q_aload_n o_Rd_readOfTwo_25 rfl ?_
    refine q2_getI hs6 o_Rd_readOfTwo_26 f_Rd_121 rfl ?_
    refine q_iadd o_Rd_readOfTwo_29 ?_
    refine q2_ist (ls' := [some (.ref 4), some (.ref p0), some (.ref p1), some (.int p2), some (.int (((q_I σ5 4 1) * 6) + (q_I σ5 4 2)))]) o_Rd_readOfTwo_30 (Nat.le_of_ble_eq_true rfl) rfl ?_
    refine q_aload_n o_Rd_readOfTwo_32 rfl ?_
    refine q_iload o_Rd_readOfTwo_33 rfl ?_
    obtain ⟨k11, eh10, bh10, h10⟩ := h9
    refine q2_iald hs6 o_Rd_readOfTwo_35 hp1 eh10 bh10 (by decide) ?_
    refine q_if_eq o_Rd_readOfTwo_36 (fun c12 => ?_) (fun c12 => ?_)
    · have h13 := h10.1 c12
      refine q_aload_n o_Rd_readOfTwo_48 rfl ?_
      refine q2_getR hs6 o_Rd_readOfTwo_49 f_Rd_9 rfl (fz_4_0 hs6) ?_
      refine q2_callVv _ (a := 3) (As := []) (st := []) hs6 o_Rd_readOfTwo_52 k_Rd_100 rfl rfl (Nat.le_of_ble_eq_true rfl) h13 (fun σ15 hs16 h14 => ?_)
      refine q_aload_n o_Rd_readOfTwo_55 rfl ?_
      refine q2_getR hs16 o_Rd_readOfTwo_56 f_Rd_9 rfl (fz_4_0 hs16) ?_
      refine q_iconst (v := 1) o_Rd_readOfTwo_59 (by decide) ?_
      refine q_iload_n o_Rd_readOfTwo_60 rfl ?_
      refine q2_callVi _ (a := 3) (As := [.int 1, .int p2]) (st := []) hs16 o_Rd_readOfTwo_61 k_Rd_127 rfl rfl (Nat.le_of_ble_eq_true rfl) h14 (fun x20 σ18 hs19 h17 => ?_)
      refine q_if_ne o_Rd_readOfTwo_64 (fun c21 => ?_) (fun c21 => ?_)
      · have h22 := h17.1 c21
        refine q_aload_n o_Rd_readOfTwo_69 rfl ?_
        refine q_iload o_Rd_readOfTwo_70 rfl ?_
        refine q_aload_n o_Rd_readOfTwo_72 rfl ?_
        refine q2_getR hs19 o_Rd_readOfTwo_73 f_Rd_9 rfl (fz_4_0 hs19) ?_
        refine q2_getI hs19 o_Rd_readOfTwo_76 f_Rd_131 rfl ?_
        obtain ⟨k24, eh23, bh23, h23⟩ := h22
        refine q2_iast hs19 o_Rd_readOfTwo_79 hp1 eh23 bh23 (by decide) ?_
        refine q_iconst (v := 1) o_Rd_readOfTwo_80 (by decide) ?_
        exact q_zre o_Rd_readOfTwo_81 rfl rfl h23
      · have h25 := h17.2 c21
        refine q_iconst (v := 0) o_Rd_readOfTwo_67 (by decide) ?_
        exact q_zre o_Rd_readOfTwo_68 rfl rfl h25
    · have h26 := h10.2 c12
      refine q_aload_n o_Rd_readOfTwo_39 rfl ?_
      refine q2_getR hs6 o_Rd_readOfTwo_40 f_Rd_9 rfl (fz_4_0 hs6) ?_
      refine q_iconst (v := 3) o_Rd_readOfTwo_43 (by decide) ?_
      refine q2_callVi _ (a := 3) (As := [.int 3]) (st := []) hs6 o_Rd_readOfTwo_44 k_Rd_43 rfl rfl (Nat.le_of_ble_eq_true rfl) h26 (fun x30 σ28 hs29 h27 => ?_)
      exact q_zre o_Rd_readOfTwo_47 rfl h27.1 h27.2
  · have h31 := h4.2 c8
    refine q_iconst (v := 0) o_Rd_readOfTwo_16 (by decide) ?_
    exact q_zre o_Rd_readOfTwo_17 rfl rfl h31

set_option maxRecDepth 20000 in
theorem v_Rd_readApart_0 {G : q_G} {d : Nat} {σ : q_S} {Q : Option Value → q_S → Prop} {p0 : Nat} (hp0 : q_isTw p0) (hs : q_Sh σ) (h : q_Call G d 0 0 X_Rd_readCustom [.ref 4, .ref p0, .int (q_I σ p0 16), .int 0] σ (q_ri (fun x4 σ2 => ((¬ x4 = 0 → Q (some (.int 1)) (q_setI σ2 p0 16 ((q_I σ2 p0 16) + 1))) ∧ (x4 = 0 → Q (some (.int 0)) σ2))))) : q_At G X_Rd_readApart (d + 1) 0 0 0 [some (.ref 4), some (.ref p0)] [] σ Q := by
  refine q_aload_n o_Rd_readApart_0 rfl ?_
  refine q_aload_n o_Rd_readApart_1 rfl ?_
  refine q_aload_n o_Rd_readApart_2 rfl ?_
  refine q2_getI hs o_Rd_readApart_3 f_Rd_175 (kd_Tw_0 hp0) ?_
  refine q_iconst (v := 0) o_Rd_readApart_6 (by decide) ?_
  refine q2_callVi _ (a := 4) (As := [.ref p0, .int (q_I σ p0 16), .int 0]) (st := []) hs o_Rd_readApart_7 k_Rd_178 rfl rfl (Nat.le_of_ble_eq_true rfl) h (fun x4 σ2 hs3 h1 => ?_)
  refine q_if_ne o_Rd_readApart_10 (fun c5 => ?_) (fun c5 => ?_)
  · have h6 := h1.1 c5
    refine q_aload_n o_Rd_readApart_15 rfl ?_
    refine q_dup o_Rd_readApart_16 rfl ?_
    refine q2_getI hs3 o_Rd_readApart_17 f_Rd_175 (kd_Tw_0 hp0) ?_
    refine q_iconst (v := 1) o_Rd_readApart_20 (by decide) ?_
    refine q_iadd o_Rd_readApart_21 ?_
    refine q2_putI hs3 o_Rd_readApart_22 fp_Rd_175 (kd_Tw_0 hp0) rfl rfl ?_
    refine q_iconst (v := 1) o_Rd_readApart_25 (by decide) ?_
    exact q_zre o_Rd_readApart_26 rfl rfl h6
  · have h7 := h1.2 c5
    refine q_iconst (v := 0) o_Rd_readApart_13 (by decide) ?_
    exact q_zre o_Rd_readApart_14 rfl rfl h7

set_option maxRecDepth 20000 in
theorem v_Rd_readBeside_0 {G : q_G} {d : Nat} {σ : q_S} {Q : Option Value → q_S → Prop} {p0 : Nat} (hp0 : q_isTw p0) (hs : q_Sh σ) (h : q_Call G d 0 0 X_Rd_readCustom [.ref 4, .ref p0, .int (q_I σ p0 17), .int 4] σ (q_ri (fun x4 σ2 => ((¬ x4 = 0 → Q (some (.int 1)) (q_setI σ2 p0 17 ((q_I σ2 p0 17) + 1))) ∧ (x4 = 0 → Q (some (.int 0)) σ2))))) : q_At G X_Rd_readBeside (d + 1) 0 0 0 [some (.ref 4), some (.ref p0)] [] σ Q := by
  refine q_aload_n o_Rd_readBeside_0 rfl ?_
  refine q_aload_n o_Rd_readBeside_1 rfl ?_
  refine q_aload_n o_Rd_readBeside_2 rfl ?_
  refine q2_getI hs o_Rd_readBeside_3 f_Rd_182 (kd_Tw_0 hp0) ?_
  refine q_iconst (v := 4) o_Rd_readBeside_6 (by decide) ?_
  refine q2_callVi _ (a := 4) (As := [.ref p0, .int (q_I σ p0 17), .int 4]) (st := []) hs o_Rd_readBeside_7 k_Rd_178 rfl rfl (Nat.le_of_ble_eq_true rfl) h (fun x4 σ2 hs3 h1 => ?_)
  refine q_if_ne o_Rd_readBeside_10 (fun c5 => ?_) (fun c5 => ?_)
  · have h6 := h1.1 c5
    refine q_aload_n o_Rd_readBeside_15 rfl ?_
    refine q_dup o_Rd_readBeside_16 rfl ?_
    refine q2_getI hs3 o_Rd_readBeside_17 f_Rd_182 (kd_Tw_0 hp0) ?_
    refine q_iconst (v := 1) o_Rd_readBeside_20 (by decide) ?_
    refine q_iadd o_Rd_readBeside_21 ?_
    refine q2_putI hs3 o_Rd_readBeside_22 fp_Rd_182 (kd_Tw_0 hp0) rfl rfl ?_
    refine q_iconst (v := 1) o_Rd_readBeside_25 (by decide) ?_
    exact q_zre o_Rd_readBeside_26 rfl rfl h6
  · have h7 := h1.2 c5
    refine q_iconst (v := 0) o_Rd_readBeside_13 (by decide) ?_
    exact q_zre o_Rd_readBeside_14 rfl rfl h7

set_option maxRecDepth 20000 in
theorem v_Rd_readCustom_0 {G : q_G} {d : Nat} {σ : q_S} {Q : Option Value → q_S → Prop} {p0 : Nat} {p1 : Int32} {p2 : Int32} (hp0 : q_isTw p0) (hs : q_Sh σ) (h : ((p1 < 4 → q_Call G d 0 0 X_Tk_advance [.ref 3] σ (q_rv (fun σ4 => q_Call G d 0 0 X_Rd_readTwo [.ref 4, .ref p0, .int 0] σ4 (q_ri (fun x9 σ7 => ((¬ x9 = 0 → q_Call G d 0 0 X_W_pairBit [.int (q_I σ7 4 1), .int (q_I σ7 4 2)] σ7 (q_rl (fun x15 σ13 => (∃ k17, (p2 + p1) = nI k17 ∧ k17 < 8 ∧ q_Call G d 0 0 X_Tk_advance [.ref 3] (q_setL σ13 (p0 + 11) k17 x15) (q_rv (fun σ19 => Q (some (.int 1)) σ19)))))) ∧ (x9 = 0 → Q (some (.int 0)) σ7))))))) ∧ (¬ p1 < 4 → q_Call G d 0 0 X_Tk_refuse [.ref 3, .int 5] σ (q_ri (fun x26 σ24 => (narrow .boolean (.int x26) = .int x26 ∧ Q (some (.int x26)) σ24)))))) : q_At G X_Rd_readCustom (d + 1) 0 0 0 [some (.ref 4), some (.ref p0), some (.int p1), some (.int p2)] [] σ Q := by
  refine q_iload_n o_Rd_readCustom_0 rfl ?_
  refine q_iconst (v := 4) o_Rd_readCustom_1 (by decide) ?_
  refine q_icmp_lt o_Rd_readCustom_2 (fun c1 => ?_) (fun c1 => ?_)
  · have h2 := h.1 c1
    refine q_aload_n o_Rd_readCustom_14 rfl ?_
    refine q2_getR hs o_Rd_readCustom_15 f_Rd_9 rfl (fz_4_0 hs) ?_
    refine q2_callVv _ (a := 3) (As := []) (st := []) hs o_Rd_readCustom_18 k_Rd_100 rfl rfl (Nat.le_of_ble_eq_true rfl) h2 (fun σ4 hs5 h3 => ?_)
    refine q_aload_n o_Rd_readCustom_21 rfl ?_
    refine q_aload_n o_Rd_readCustom_22 rfl ?_
    refine q_iconst (v := 0) o_Rd_readCustom_23 (by decide) ?_
    refine q2_callVi _ (a := 4) (As := [.ref p0, .int 0]) (st := []) hs5 o_Rd_readCustom_24 k_Rd_114 rfl rfl (Nat.le_of_ble_eq_true rfl) h3 (fun x9 σ7 hs8 h6 => ?_)
    refine q_if_ne o_Rd_readCustom_27 (fun c10 => ?_) (fun c10 => ?_)
    · have h11 := h6.1 c10
      refine q_aload_n o_Rd_readCustom_32 rfl ?_
      refine q2_getR hs8 o_Rd_readCustom_33 f_Rd_185 (kd_Tw_0 hp0) (fz_Tw_10 hs8 hp0) ?_
      refine q_iload_n o_Rd_readCustom_36 rfl ?_
      refine q_iload_n o_Rd_readCustom_37 rfl ?_
      refine q_iadd o_Rd_readCustom_38 ?_
      refine q_aload_n o_Rd_readCustom_39 rfl ?_
      refine q2_getI hs8 o_Rd_readCustom_40 f_Rd_118 rfl ?_
      refine q_aload_n o_Rd_readCustom_43 rfl ?_
      refine q2_getI hs8 o_Rd_readCustom_44 f_Rd_121 rfl ?_
      refine q2_callSl _ (As := [.int (q_I σ7 4 1), .int (q_I σ7 4 2)]) (st := [.int (p2 + p1), .ref (p0 + 11)]) hs8 o_Rd_readCustom_47 k_Rd_188 rfl (Nat.le_of_ble_eq_true rfl) h11 (fun x15 σ13 hs14 h12 => ?_)
      obtain ⟨k17, eh16, bh16, h16⟩ := h12
      refine q2_last hs14 o_Rd_readCustom_50 (kd_Tw_11 hp0) eh16 bh16 (by decide) ?_
      refine q_aload_n o_Rd_readCustom_51 rfl ?_
      refine q2_getR hs14 o_Rd_readCustom_52 f_Rd_9 rfl (fz_4_0 hs14) ?_
      refine q2_callVv _ (a := 3) (As := []) (st := []) hs14 o_Rd_readCustom_55 k_Rd_100 rfl rfl (Nat.le_of_ble_eq_true rfl) h16 (fun σ19 hs20 h18 => ?_)
      refine q_iconst (v := 1) o_Rd_readCustom_58 (by decide) ?_
      exact q_zre o_Rd_readCustom_59 rfl rfl h18
    · have h21 := h6.2 c10
      refine q_iconst (v := 0) o_Rd_readCustom_30 (by decide) ?_
      exact q_zre o_Rd_readCustom_31 rfl rfl h21
  · have h22 := h.2 c1
    refine q_aload_n o_Rd_readCustom_5 rfl ?_
    refine q2_getR hs o_Rd_readCustom_6 f_Rd_9 rfl (fz_4_0 hs) ?_
    refine q_iconst (v := 5) o_Rd_readCustom_9 (by decide) ?_
    refine q2_callVi _ (a := 3) (As := [.int 5]) (st := []) hs o_Rd_readCustom_10 k_Rd_43 rfl rfl (Nat.le_of_ble_eq_true rfl) h22 (fun x26 σ24 hs25 h23 => ?_)
    exact q_zre o_Rd_readCustom_13 rfl h23.1 h23.2

set_option maxRecDepth 20000 in
theorem v_Rd_readLaw_0 {G : q_G} {d : Nat} {σ : q_S} {Q : Option Value → q_S → Prop} {p0 : Nat} {p1 : Int32} (hp0 : q_isTw p0) (hs : q_Sh σ) (h : (∃ k2, p1 = nI k2 ∧ k2 < 3 ∧ (((q_I σ (p0 + 13 + 4) k2) = 0 → q_Call G d 0 0 X_Tk_advance [.ref 3] σ (q_rv (fun σ6 => q_Call G d 0 0 X_La_readChain [.ref (p0 + 13), .ref 3, .int p1, .int 0] σ6 (q_ri (fun x11 σ9 => ((¬ x11 = 0 → q_Call G d 0 0 X_La_tellFrom [.ref (p0 + 13), .int p1, .int (q_I σ6 (p0 + 13) 5)] σ9 (q_rv (fun σ15 => Q (some (.int 1)) σ15))) ∧ (x11 = 0 → Q (some (.int 0)) σ9))))))) ∧ (¬ (q_I σ (p0 + 13 + 4) k2) = 0 → q_Call G d 0 0 X_Tk_refuse [.ref 3, .int 3] σ (q_ri (fun x22 σ20 => (narrow .boolean (.int x22) = .int x22 ∧ Q (some (.int x22)) σ20))))))) : q_At G X_Rd_readLaw (d + 1) 0 0 0 [some (.ref 4), some (.ref p0), some (.int p1), none] [] σ Q := by
  refine q_aload_n o_Rd_readLaw_0 rfl ?_
  refine q2_getR hs o_Rd_readLaw_1 f_Rd_192 (kd_Tw_0 hp0) (fz_Tw_12 hs hp0) ?_
  refine q2_getR hs o_Rd_readLaw_4 f_Rd_196 (kd_La_0 (isLa_of_Tw hp0)) (fz_La_3 hs (isLa_of_Tw hp0)) ?_
  refine q_iload_n o_Rd_readLaw_7 rfl ?_
  obtain ⟨k2, eh1, bh1, h1⟩ := h
  refine q2_zald hs o_Rd_readLaw_8 (kd_La_4 (isLa_of_Tw hp0)) eh1 bh1 (by decide) ?_
  refine q_if_eq o_Rd_readLaw_9 (fun c3 => ?_) (fun c3 => ?_)
  · have h4 := h1.1 c3
    refine q_aload_n o_Rd_readLaw_21 rfl ?_
    refine q2_getR hs o_Rd_readLaw_22 f_Rd_9 rfl (fz_4_0 hs) ?_
    refine q2_callVv _ (a := 3) (As := []) (st := []) hs o_Rd_readLaw_25 k_Rd_100 rfl rfl (Nat.le_of_ble_eq_true rfl) h4 (fun σ6 hs7 h5 => ?_)
    refine q_aload_n o_Rd_readLaw_28 rfl ?_
    refine q2_getR hs7 o_Rd_readLaw_29 f_Rd_192 (kd_Tw_0 hp0) (fz_Tw_12 hs7 hp0) ?_
    refine q2_getI hs7 o_Rd_readLaw_32 f_Rd_200 (kd_La_0 (isLa_of_Tw hp0)) ?_
    refine q2_istn (ls' := [some (.ref 4), some (.ref p0), some (.int p1), some (.int (q_I σ6 (p0 + 13) 5))]) o_Rd_readLaw_35 (Nat.le_of_ble_eq_true rfl) rfl ?_
    refine q_aload_n o_Rd_readLaw_36 rfl ?_
    refine q2_getR hs7 o_Rd_readLaw_37 f_Rd_192 (kd_Tw_0 hp0) (fz_Tw_12 hs7 hp0) ?_
    refine q_aload_n o_Rd_readLaw_40 rfl ?_
    refine q2_getR hs7 o_Rd_readLaw_41 f_Rd_9 rfl (fz_4_0 hs7) ?_
    refine q_iload_n o_Rd_readLaw_44 rfl ?_
    refine q_iconst (v := 0) o_Rd_readLaw_45 (by decide) ?_
    refine q2_callVi _ (a := p0 + 13) (As := [.ref 3, .int p1, .int 0]) (st := []) hs7 o_Rd_readLaw_46 k_Rd_203 (kd_La_0 (isLa_of_Tw hp0)) rfl (Nat.le_of_ble_eq_true rfl) h5 (fun x11 σ9 hs10 h8 => ?_)
    refine q_if_ne o_Rd_readLaw_49 (fun c12 => ?_) (fun c12 => ?_)
    · have h13 := h8.1 c12
      refine q_aload_n o_Rd_readLaw_54 rfl ?_
      refine q2_getR hs10 o_Rd_readLaw_55 f_Rd_192 (kd_Tw_0 hp0) (fz_Tw_12 hs10 hp0) ?_
      refine q_iload_n o_Rd_readLaw_58 rfl ?_
      refine q_iload_n o_Rd_readLaw_59 rfl ?_
      refine q2_callVv _ (a := p0 + 13) (As := [.int p1, .int (q_I σ6 (p0 + 13) 5)]) (st := []) hs10 o_Rd_readLaw_60 k_Rd_207 (kd_La_0 (isLa_of_Tw hp0)) rfl (Nat.le_of_ble_eq_true rfl) h13 (fun σ15 hs16 h14 => ?_)
      refine q_iconst (v := 1) o_Rd_readLaw_63 (by decide) ?_
      exact q_zre o_Rd_readLaw_64 rfl rfl h14
    · have h17 := h8.2 c12
      refine q_iconst (v := 0) o_Rd_readLaw_52 (by decide) ?_
      exact q_zre o_Rd_readLaw_53 rfl rfl h17
  · have h18 := h1.2 c3
    refine q_aload_n o_Rd_readLaw_12 rfl ?_
    refine q2_getR hs o_Rd_readLaw_13 f_Rd_9 rfl (fz_4_0 hs) ?_
    refine q_iconst (v := 3) o_Rd_readLaw_16 (by decide) ?_
    refine q2_callVi _ (a := 3) (As := [.int 3]) (st := []) hs o_Rd_readLaw_17 k_Rd_43 rfl rfl (Nat.le_of_ble_eq_true rfl) h18 (fun x22 σ20 hs21 h19 => ?_)
    exact q_zre o_Rd_readLaw_20 rfl h19.1 h19.2

set_option maxRecDepth 20000 in
theorem v_Rd_readDays_0 {G : q_G} {d : Nat} {σ : q_S} {Q : Option Value → q_S → Prop} {p0 : Nat} {p1 : Nat} (hp0 : q_isTw p0) (hp1 : q_isDy p1) (hs : q_Sh σ) (h : q_Call G d 0 0 X_Tk_start [.ref 3] (q_setI σ p1 4 0) (q_rv (fun σ2 => q_At G X_Rd_readDays (d + 1) 0 0 17 [some (.ref 4), some (.ref p0), some (.ref p1), some (.int 1), some (.int 0)] [] σ2 Q))) : q_At G X_Rd_readDays (d + 1) 0 0 0 [some (.ref 4), some (.ref p0), some (.ref p1), none, none] [] σ Q := by
  refine q_aload_n o_Rd_readDays_0 rfl ?_
  refine q_iconst (v := 0) o_Rd_readDays_1 (by decide) ?_
  refine q2_putI hs o_Rd_readDays_2 fp_Rd_211 (kd_Dy_0 hp1) rfl rfl ?_
  refine q_aload_n o_Rd_readDays_5 rfl ?_
  refine q2_getR hs o_Rd_readDays_6 f_Rd_9 rfl (fz_4_0 hs) ?_
  refine q2_callVv _ (a := 3) (As := []) (st := []) hs o_Rd_readDays_9 k_Rd_20 rfl rfl (Nat.le_of_ble_eq_true rfl) h (fun σ2 hs3 h1 => ?_)
  refine q_iconst (v := 1) o_Rd_readDays_12 (by decide) ?_
  refine q2_istn (ls' := [some (.ref 4), some (.ref p0), some (.ref p1), some (.int 1), none]) o_Rd_readDays_13 (Nat.le_of_ble_eq_true rfl) rfl ?_
  refine q_iconst (v := 0) o_Rd_readDays_14 (by decide) ?_
  refine q2_ist (ls' := [some (.ref 4), some (.ref p0), some (.ref p1), some (.int 1), some (.int 0)]) o_Rd_readDays_15 (Nat.le_of_ble_eq_true rfl) rfl ?_
  exact h1

set_option maxRecDepth 20000 in
theorem v_Rd_readDays_17 {G : q_G} {d : Nat} {σ : q_S} {Q : Option Value → q_S → Prop} {p0 : Nat} {p1 : Nat} {l3 : Int32} {l4 : Int32}  (hs : q_Sh σ) (h : ((1000 ≤ l4 → Q (some (.int (q_I σ 3 9))) σ) ∧ (¬ 1000 ≤ l4 → ((l3 = 0 → Q (some (.int (q_I σ 3 9))) σ) ∧ (¬ l3 = 0 → (((q_I σ 3 1) = 0 → Q (some (.int (q_I σ 3 9))) σ) ∧ (¬ (q_I σ 3 1) = 0 → q_Call G d 0 0 X_Rd_readDaysLine [.ref 4, .ref p0, .ref p1] σ (q_ri (fun x13 σ11 => ((x13 = 0 → q_At G X_Rd_readDays (d + 1) 0 0 17 [some (.ref 4), some (.ref p0), some (.ref p1), some (.int 0), some (.int (l4 + 1))] [] σ11 Q) ∧ (¬ x13 = 0 → q_Call G d 0 0 X_Tk_takeSign [.ref 3, .int 59] σ11 (q_ri (fun x20 σ18 => q_At G X_Rd_readDays (d + 1) 0 0 17 [some (.ref 4), some (.ref p0), some (.ref p1), some (.int (if x20 = 0 then (0 : Int32) else (1 : Int32))), some (.int (l4 + 1))] [] σ18 Q))))))))))))) : q_At G X_Rd_readDays (d + 1) 0 0 17 [some (.ref 4), some (.ref p0), some (.ref p1), some (.int l3), some (.int l4)] [] σ Q := by
  refine q_iload o_Rd_readDays_17 rfl ?_
  refine q_sipush (v := 1000) o_Rd_readDays_19 (by decide) ?_
  refine q_icmp_ge o_Rd_readDays_22 (fun c1 => ?_) (fun c1 => ?_)
  · have h2 := h.1 c1
    refine q_aload_n o_Rd_readDays_72 rfl ?_
    refine q2_getR hs o_Rd_readDays_73 f_Rd_9 rfl (fz_4_0 hs) ?_
    refine q2_getI hs o_Rd_readDays_76 f_Rd_40 rfl ?_
    exact q_ire o_Rd_readDays_79 rfl h2
  · have h3 := h.2 c1
    refine q_iload_n o_Rd_readDays_25 rfl ?_
    refine q_if_eq o_Rd_readDays_26 (fun c4 => ?_) (fun c4 => ?_)
    · have h5 := h3.1 c4
      refine q_aload_n o_Rd_readDays_72 rfl ?_
      refine q2_getR hs o_Rd_readDays_73 f_Rd_9 rfl (fz_4_0 hs) ?_
      refine q2_getI hs o_Rd_readDays_76 f_Rd_40 rfl ?_
      exact q_ire o_Rd_readDays_79 rfl h5
    · have h6 := h3.2 c4
      refine q_aload_n o_Rd_readDays_29 rfl ?_
      refine q2_getR hs o_Rd_readDays_30 f_Rd_9 rfl (fz_4_0 hs) ?_
      refine q2_getI hs o_Rd_readDays_33 f_Rd_25 rfl ?_
      refine q_if_eq o_Rd_readDays_36 (fun c7 => ?_) (fun c7 => ?_)
      · have h8 := h6.1 c7
        refine q_aload_n o_Rd_readDays_72 rfl ?_
        refine q2_getR hs o_Rd_readDays_73 f_Rd_9 rfl (fz_4_0 hs) ?_
        refine q2_getI hs o_Rd_readDays_76 f_Rd_40 rfl ?_
        exact q_ire o_Rd_readDays_79 rfl h8
      · have h9 := h6.2 c7
        refine q_aload_n o_Rd_readDays_39 rfl ?_
        refine q_aload_n o_Rd_readDays_40 rfl ?_
        refine q_aload_n o_Rd_readDays_41 rfl ?_
        refine q2_callVi _ (a := 4) (As := [.ref p0, .ref p1]) (st := []) hs o_Rd_readDays_42 k_Rd_216 rfl rfl (Nat.le_of_ble_eq_true rfl) h9 (fun x13 σ11 hs12 h10 => ?_)
        refine q_if_eq o_Rd_readDays_45 (fun c14 => ?_) (fun c14 => ?_)
        · have h15 := h10.1 c14
          refine q_iconst (v := 0) o_Rd_readDays_64 (by decide) ?_
          refine q2_istn (ls' := [some (.ref 4), some (.ref p0), some (.ref p1), some (.int 0), some (.int l4)]) o_Rd_readDays_65 (Nat.le_of_ble_eq_true rfl) rfl ?_
          refine q2_inc (v := (l4 + 1)) (ls' := [some (.ref 4), some (.ref p0), some (.ref p1), some (.int 0), some (.int (l4 + 1))]) o_Rd_readDays_66 rfl rfl (Nat.le_of_ble_eq_true rfl) rfl ?_
          refine q_goto o_Rd_readDays_69 ?_
          exact h15
        · have h16 := h10.2 c14
          refine q_aload_n o_Rd_readDays_48 rfl ?_
          refine q2_getR hs12 o_Rd_readDays_49 f_Rd_9 rfl (fz_4_0 hs12) ?_
          refine q_bipush (v := 59) o_Rd_readDays_52 (by decide) ?_
          refine q2_callVi _ (a := 3) (As := [.int 59]) (st := []) hs12 o_Rd_readDays_54 k_Rd_33 rfl rfl (Nat.le_of_ble_eq_true rfl) h16 (fun x20 σ18 hs19 h17 => ?_)
          have hJ : ∀ vJ : Int32, vJ = (if x20 = 0 then (0 : Int32) else (1 : Int32)) → q_At G X_Rd_readDays (d + 1) 0 0 65 [some (.ref 4), some (.ref p0), some (.ref p1), some (.int l3), some (.int l4)] [.int vJ] σ18 Q := by
            intro vJ eJ
            rw [eJ]
            clear eJ vJ
            refine q2_istn (ls' := [some (.ref 4), some (.ref p0), some (.ref p1), some (.int (if x20 = 0 then (0 : Int32) else (1 : Int32))), some (.int l4)]) o_Rd_readDays_65 (Nat.le_of_ble_eq_true rfl) rfl ?_
            refine q2_inc (v := (l4 + 1)) (ls' := [some (.ref 4), some (.ref p0), some (.ref p1), some (.int (if x20 = 0 then (0 : Int32) else (1 : Int32))), some (.int (l4 + 1))]) o_Rd_readDays_66 rfl rfl (Nat.le_of_ble_eq_true rfl) rfl ?_
            refine q_goto o_Rd_readDays_69 ?_
            exact h17
          refine q_if_eq o_Rd_readDays_57 (fun c21 => ?_) (fun c21 => ?_)
          · refine q_iconst (v := 0) o_Rd_readDays_64 (by decide) ?_
            exact hJ _ (Eq.symm (if_pos c21))
          · refine q_iconst (v := 1) o_Rd_readDays_60 (by decide) ?_
            refine q_goto o_Rd_readDays_61 ?_
            exact hJ _ (Eq.symm (if_neg c21))

set_option maxRecDepth 20000 in
theorem v_Rd_readDaysLine_0 {G : q_G} {d : Nat} {σ : q_S} {Q : Option Value → q_S → Prop} {p0 : Nat} {p1 : Nat} (hp0 : q_isTw p0) (hp1 : q_isDy p1) (hs : q_Sh σ) (h : q_Call G d 0 0 X_Rd_actHere [.ref 4] σ (q_ri (fun x4 σ2 => ((¬ x4 = (-1) → (((q_I σ2 p1 4) < 24 → q_Call G d 0 0 X_Tk_advance [.ref 3] σ2 (q_rv (fun σ10 => ((¬ x4 = 0 → q_Call G d 0 0 X_Rd_readTwo [.ref 4, .ref p0, .int 0] σ10 (q_ri (fun x17 σ15 => ((¬ x17 = 0 → q_Call G d 0 0 X_Tk_advance [.ref 3] σ15 (q_rv (fun σ21 => ((¬ x4 = 1 → q_Call G d 0 0 X_Tk_takeNumber [.ref 3, .int 1, .int 999] σ21 (q_ri (fun x28 σ26 => ((x28 = 0 → Q (some (.int 0)) σ26) ∧ (¬ x28 = 0 → q_Call G d 0 0 X_Dy_add [.ref p1, .int x4, .int (q_I σ26 4 1), .int (q_I σ26 4 2), .int (q_I σ26 3 8)] σ26 (q_ri (fun x35 σ33 => (narrow .boolean (.int (if x35 = 0 then (0 : Int32) else (1 : Int32))) = .int (if x35 = 0 then (0 : Int32) else (1 : Int32)) ∧ Q (some (.int (if x35 = 0 then (0 : Int32) else (1 : Int32)))) σ33)))))))) ∧ (x4 = 1 → q_Call G d 0 0 X_Dy_add [.ref p1, .int x4, .int (q_I σ21 4 1), .int (q_I σ21 4 2), .int 0] σ21 (q_ri (fun x41 σ39 => (narrow .boolean (.int x41) = .int x41 ∧ Q (some (.int x41)) σ39)))))))) ∧ (x17 = 0 → Q (some (.int 0)) σ15))))) ∧ (x4 = 0 → q_Call G d 0 0 X_Tk_takeNumber [.ref 3, .int 0, .int 9999] σ10 (q_ri (fun x47 σ45 => ((x47 = 0 → Q (some (.int 0)) σ45) ∧ (¬ x47 = 0 → q_Call G d 0 0 X_Dy_add [.ref p1, .int x4, .int 0, .int 0, .int (q_I σ45 3 8)] σ45 (q_ri (fun x54 σ52 => (narrow .boolean (.int (if x54 = 0 then (0 : Int32) else (1 : Int32))) = .int (if x54 = 0 then (0 : Int32) else (1 : Int32)) ∧ Q (some (.int (if x54 = 0 then (0 : Int32) else (1 : Int32)))) σ52)))))))))))) ∧ (¬ (q_I σ2 p1 4) < 24 → q_Call G d 0 0 X_Tk_refuse [.ref 3, .int 5] σ2 (q_ri (fun x60 σ58 => (narrow .boolean (.int x60) = .int x60 ∧ Q (some (.int x60)) σ58)))))) ∧ (x4 = (-1) → q_Call G d 0 0 X_Tk_refuse [.ref 3, .int 1] σ2 (q_ri (fun x65 σ63 => (narrow .boolean (.int x65) = .int x65 ∧ Q (some (.int x65)) σ63)))))))) : q_At G X_Rd_readDaysLine (d + 1) 0 0 0 [some (.ref 4), some (.ref p0), some (.ref p1), none] [] σ Q := by
  refine q_aload_n o_Rd_readDaysLine_0 rfl ?_
  refine q2_callVi _ (a := 4) (As := []) (st := []) hs o_Rd_readDaysLine_1 k_Rd_220 rfl rfl (Nat.le_of_ble_eq_true rfl) h (fun x4 σ2 hs3 h1 => ?_)
  refine q2_istn (ls' := [some (.ref 4), some (.ref p0), some (.ref p1), some (.int x4)]) o_Rd_readDaysLine_4 (Nat.le_of_ble_eq_true rfl) rfl ?_
  refine q_iload_n o_Rd_readDaysLine_5 rfl ?_
  refine q_iconst (v := (-1)) o_Rd_readDaysLine_6 (by decide) ?_
  refine q_icmp_ne o_Rd_readDaysLine_7 (fun c5 => ?_) (fun c5 => ?_)
  · have h6 := h1.1 c5
    refine q_aload_n o_Rd_readDaysLine_19 rfl ?_
    refine q2_getI hs3 o_Rd_readDaysLine_20 f_Rd_211 (kd_Dy_0 hp1) ?_
    refine q_bipush (v := 24) o_Rd_readDaysLine_23 (by decide) ?_
    refine q_icmp_lt o_Rd_readDaysLine_25 (fun c7 => ?_) (fun c7 => ?_)
    · have h8 := h6.1 c7
      refine q_aload_n o_Rd_readDaysLine_37 rfl ?_
      refine q2_getR hs3 o_Rd_readDaysLine_38 f_Rd_9 rfl (fz_4_0 hs3) ?_
      refine q2_callVv _ (a := 3) (As := []) (st := []) hs3 o_Rd_readDaysLine_41 k_Rd_100 rfl rfl (Nat.le_of_ble_eq_true rfl) h8 (fun σ10 hs11 h9 => ?_)
      refine q_iload_n o_Rd_readDaysLine_44 rfl ?_
      refine q_if_ne o_Rd_readDaysLine_45 (fun c12 => ?_) (fun c12 => ?_)
      · have h13 := h9.1 c12
        refine q_aload_n o_Rd_readDaysLine_85 rfl ?_
        refine q_aload_n o_Rd_readDaysLine_86 rfl ?_
        refine q_iconst (v := 0) o_Rd_readDaysLine_87 (by decide) ?_
        refine q2_callVi _ (a := 4) (As := [.ref p0, .int 0]) (st := []) hs11 o_Rd_readDaysLine_88 k_Rd_114 rfl rfl (Nat.le_of_ble_eq_true rfl) h13 (fun x17 σ15 hs16 h14 => ?_)
        refine q_if_ne o_Rd_readDaysLine_91 (fun c18 => ?_) (fun c18 => ?_)
        · have h19 := h14.1 c18
          refine q_aload_n o_Rd_readDaysLine_96 rfl ?_
          refine q2_getR hs16 o_Rd_readDaysLine_97 f_Rd_9 rfl (fz_4_0 hs16) ?_
          refine q2_callVv _ (a := 3) (As := []) (st := []) hs16 o_Rd_readDaysLine_100 k_Rd_100 rfl rfl (Nat.le_of_ble_eq_true rfl) h19 (fun σ21 hs22 h20 => ?_)
          refine q_iload_n o_Rd_readDaysLine_103 rfl ?_
          refine q_iconst (v := 1) o_Rd_readDaysLine_104 (by decide) ?_
          refine q_icmp_ne o_Rd_readDaysLine_105 (fun c23 => ?_) (fun c23 => ?_)
          · have h24 := h20.1 c23
            refine q_aload_n o_Rd_readDaysLine_123 rfl ?_
            refine q2_getR hs22 o_Rd_readDaysLine_124 f_Rd_9 rfl (fz_4_0 hs22) ?_
            refine q_iconst (v := 1) o_Rd_readDaysLine_127 (by decide) ?_
            refine q_sipush (v := 999) o_Rd_readDaysLine_128 (by decide) ?_
            refine q2_callVi _ (a := 3) (As := [.int 1, .int 999]) (st := []) hs22 o_Rd_readDaysLine_131 k_Rd_127 rfl rfl (Nat.le_of_ble_eq_true rfl) h24 (fun x28 σ26 hs27 h25 => ?_)
            refine q_if_eq o_Rd_readDaysLine_134 (fun c29 => ?_) (fun c29 => ?_)
            · have h30 := h25.1 c29
              refine q_iconst (v := 0) o_Rd_readDaysLine_164 (by decide) ?_
              exact q_zre o_Rd_readDaysLine_165 rfl rfl h30
            · have h31 := h25.2 c29
              refine q_aload_n o_Rd_readDaysLine_137 rfl ?_
              refine q_iload_n o_Rd_readDaysLine_138 rfl ?_
              refine q_aload_n o_Rd_readDaysLine_139 rfl ?_
              refine q2_getI hs27 o_Rd_readDaysLine_140 f_Rd_118 rfl ?_
              refine q_aload_n o_Rd_readDaysLine_143 rfl ?_
              refine q2_getI hs27 o_Rd_readDaysLine_144 f_Rd_121 rfl ?_
              refine q_aload_n o_Rd_readDaysLine_147 rfl ?_
              refine q2_getR hs27 o_Rd_readDaysLine_148 f_Rd_9 rfl (fz_4_0 hs27) ?_
              refine q2_getI hs27 o_Rd_readDaysLine_151 f_Rd_131 rfl ?_
              refine q2_callVi _ (a := p1) (As := [.int x4, .int (q_I σ26 4 1), .int (q_I σ26 4 2), .int (q_I σ26 3 8)]) (st := []) hs27 o_Rd_readDaysLine_154 k_Rd_223 (kd_Dy_0 hp1) rfl (Nat.le_of_ble_eq_true rfl) h31 (fun x35 σ33 hs34 h32 => ?_)
              have hJ : ∀ vJ : Int32, vJ = (if x35 = 0 then (0 : Int32) else (1 : Int32)) → q_At G X_Rd_readDaysLine (d + 1) 0 0 165 [some (.ref 4), some (.ref p0), some (.ref p1), some (.int x4)] [.int vJ] σ33 Q := by
                intro vJ eJ
                rw [eJ]
                clear eJ vJ
                exact q_zre o_Rd_readDaysLine_165 rfl h32.1 h32.2
              refine q_if_eq o_Rd_readDaysLine_157 (fun c36 => ?_) (fun c36 => ?_)
              · refine q_iconst (v := 0) o_Rd_readDaysLine_164 (by decide) ?_
                exact hJ _ (Eq.symm (if_pos c36))
              · refine q_iconst (v := 1) o_Rd_readDaysLine_160 (by decide) ?_
                refine q_goto o_Rd_readDaysLine_161 ?_
                exact hJ _ (Eq.symm (if_neg c36))
          · have h37 := h20.2 c23
            refine q_aload_n o_Rd_readDaysLine_108 rfl ?_
            refine q_iload_n o_Rd_readDaysLine_109 rfl ?_
            refine q_aload_n o_Rd_readDaysLine_110 rfl ?_
            refine q2_getI hs22 o_Rd_readDaysLine_111 f_Rd_118 rfl ?_
            refine q_aload_n o_Rd_readDaysLine_114 rfl ?_
            refine q2_getI hs22 o_Rd_readDaysLine_115 f_Rd_121 rfl ?_
            refine q_iconst (v := 0) o_Rd_readDaysLine_118 (by decide) ?_
            refine q2_callVi _ (a := p1) (As := [.int x4, .int (q_I σ21 4 1), .int (q_I σ21 4 2), .int 0]) (st := []) hs22 o_Rd_readDaysLine_119 k_Rd_223 (kd_Dy_0 hp1) rfl (Nat.le_of_ble_eq_true rfl) h37 (fun x41 σ39 hs40 h38 => ?_)
            exact q_zre o_Rd_readDaysLine_122 rfl h38.1 h38.2
        · have h42 := h14.2 c18
          refine q_iconst (v := 0) o_Rd_readDaysLine_94 (by decide) ?_
          exact q_zre o_Rd_readDaysLine_95 rfl rfl h42
      · have h43 := h9.2 c12
        refine q_aload_n o_Rd_readDaysLine_48 rfl ?_
        refine q2_getR hs11 o_Rd_readDaysLine_49 f_Rd_9 rfl (fz_4_0 hs11) ?_
        refine q_iconst (v := 0) o_Rd_readDaysLine_52 (by decide) ?_
        refine q_sipush (v := 9999) o_Rd_readDaysLine_53 (by decide) ?_
        refine q2_callVi _ (a := 3) (As := [.int 0, .int 9999]) (st := []) hs11 o_Rd_readDaysLine_56 k_Rd_127 rfl rfl (Nat.le_of_ble_eq_true rfl) h43 (fun x47 σ45 hs46 h44 => ?_)
        refine q_if_eq o_Rd_readDaysLine_59 (fun c48 => ?_) (fun c48 => ?_)
        · have h49 := h44.1 c48
          refine q_iconst (v := 0) o_Rd_readDaysLine_83 (by decide) ?_
          exact q_zre o_Rd_readDaysLine_84 rfl rfl h49
        · have h50 := h44.2 c48
          refine q_aload_n o_Rd_readDaysLine_62 rfl ?_
          refine q_iload_n o_Rd_readDaysLine_63 rfl ?_
          refine q_iconst (v := 0) o_Rd_readDaysLine_64 (by decide) ?_
          refine q_iconst (v := 0) o_Rd_readDaysLine_65 (by decide) ?_
          refine q_aload_n o_Rd_readDaysLine_66 rfl ?_
          refine q2_getR hs46 o_Rd_readDaysLine_67 f_Rd_9 rfl (fz_4_0 hs46) ?_
          refine q2_getI hs46 o_Rd_readDaysLine_70 f_Rd_131 rfl ?_
          refine q2_callVi _ (a := p1) (As := [.int x4, .int 0, .int 0, .int (q_I σ45 3 8)]) (st := []) hs46 o_Rd_readDaysLine_73 k_Rd_223 (kd_Dy_0 hp1) rfl (Nat.le_of_ble_eq_true rfl) h50 (fun x54 σ52 hs53 h51 => ?_)
          have hJ : ∀ vJ : Int32, vJ = (if x54 = 0 then (0 : Int32) else (1 : Int32)) → q_At G X_Rd_readDaysLine (d + 1) 0 0 84 [some (.ref 4), some (.ref p0), some (.ref p1), some (.int x4)] [.int vJ] σ52 Q := by
            intro vJ eJ
            rw [eJ]
            clear eJ vJ
            exact q_zre o_Rd_readDaysLine_84 rfl h51.1 h51.2
          refine q_if_eq o_Rd_readDaysLine_76 (fun c55 => ?_) (fun c55 => ?_)
          · refine q_iconst (v := 0) o_Rd_readDaysLine_83 (by decide) ?_
            exact hJ _ (Eq.symm (if_pos c55))
          · refine q_iconst (v := 1) o_Rd_readDaysLine_79 (by decide) ?_
            refine q_goto o_Rd_readDaysLine_80 ?_
            exact hJ _ (Eq.symm (if_neg c55))
    · have h56 := h6.2 c7
      refine q_aload_n o_Rd_readDaysLine_28 rfl ?_
      refine q2_getR hs3 o_Rd_readDaysLine_29 f_Rd_9 rfl (fz_4_0 hs3) ?_
      refine q_iconst (v := 5) o_Rd_readDaysLine_32 (by decide) ?_
      refine q2_callVi _ (a := 3) (As := [.int 5]) (st := []) hs3 o_Rd_readDaysLine_33 k_Rd_43 rfl rfl (Nat.le_of_ble_eq_true rfl) h56 (fun x60 σ58 hs59 h57 => ?_)
      exact q_zre o_Rd_readDaysLine_36 rfl h57.1 h57.2
  · have h61 := h1.2 c5
    refine q_aload_n o_Rd_readDaysLine_10 rfl ?_
    refine q2_getR hs3 o_Rd_readDaysLine_11 f_Rd_9 rfl (fz_4_0 hs3) ?_
    refine q_iconst (v := 1) o_Rd_readDaysLine_14 (by decide) ?_
    refine q2_callVi _ (a := 3) (As := [.int 1]) (st := []) hs3 o_Rd_readDaysLine_15 k_Rd_43 rfl rfl (Nat.le_of_ble_eq_true rfl) h61 (fun x65 σ63 hs64 h62 => ?_)
    exact q_zre o_Rd_readDaysLine_18 rfl h62.1 h62.2

set_option maxRecDepth 20000 in
theorem v_Rd_actHere_0 {G : q_G} {d : Nat} {σ : q_S} {Q : Option Value → q_S → Prop}   (hs : q_Sh σ) (h : (((q_I σ 3 1) = 1 → (∃ k4, q_R σ 3 4 = some (1001 + k4) ∧ k4 < 34 ∧ (∃ k6, (nI k4) = nI k6 ∧ k6 < 34 ∧ ((((q_smap.getD k6 0).toInt < 24 ∨ 27 < (q_smap.getD k6 0).toInt) → Q (some (.int (-1))) σ) ∧ (((q_smap.getD k6 0).toInt = 24 → Q (some (.int 0)) σ) ∧ ((q_smap.getD k6 0).toInt = 25 → Q (some (.int 1)) σ) ∧ ((q_smap.getD k6 0).toInt = 26 → Q (some (.int 2)) σ) ∧ ((q_smap.getD k6 0).toInt = 27 → Q (some (.int 3)) σ)))))) ∧ (¬ (q_I σ 3 1) = 1 → Q (some (.int (-1))) σ))) : q_At G X_Rd_actHere (d + 1) 0 0 0 [some (.ref 4)] [] σ Q := by
  refine q_aload_n o_Rd_actHere_0 rfl ?_
  refine q2_getR hs o_Rd_actHere_1 f_Rd_9 rfl (fz_4_0 hs) ?_
  refine q2_getI hs o_Rd_actHere_4 f_Rd_25 rfl ?_
  refine q_iconst (v := 1) o_Rd_actHere_7 (by decide) ?_
  refine q_icmp_eq o_Rd_actHere_8 (fun c1 => ?_) (fun c1 => ?_)
  · have h2 := h.1 c1
    refine q_gets (w := .ref 1042) o_Rd_actHere_13 s_Rd_47 (fun U H hh => hh.2.2.2.2.1.1) ?_
    refine q_aload_n o_Rd_actHere_16 rfl ?_
    refine q2_getR hs o_Rd_actHere_17 f_Rd_9 rfl (fz_4_0 hs) ?_
    obtain ⟨k4, eh3, bh3, h3⟩ := h2
    refine q2_getR hs o_Rd_actHere_20 f_Rd_53 rfl eh3 ?_
    refine q2_ord hs o_Rd_actHere_23 k_Rd_57 bh3 (Nat.le_of_ble_eq_true rfl) ?_
    obtain ⟨k6, eh5, bh5, h5⟩ := h3
    refine q_ti (w := .int (q_smap.getD k6 0)) o_Rd_actHere_26 (fun U H hh => hh.2.2.2.2.1.2) eh5 bh5 (by decide) rfl ?_
    rcases q_sw 24 27 (q_smap.getD k6 0) with c0 | ⟨kk, c1, c2, c3⟩
    · have h7 := h5.1 c0
      refine q_tabOut (tgt := 64) o_Rd_actHere_27 c0 (by decide) ?_
      refine q_iconst (v := (-1)) o_Rd_actHere_64 (by decide) ?_
      exact q_ire o_Rd_actHere_65 rfl h7
    · have h8 := h5.2
      have hx : (q_smap.getD k6 0).toInt = 24 + (kk : Int) := c3
      have hkk : kk = 0 ∨ kk = 1 ∨ kk = 2 ∨ kk = 3 := by omega
      rcases hkk with rfl | rfl | rfl | rfl
      · have h9 := h8.1 (by simpa using hx)
        refine q_tabIn (tgt := 56) (off := 29) o_Rd_actHere_27 c1 c2 (by rw [show (q_smap.getD k6 0).toInt = 24 by simpa using hx]; rfl) (by decide) ?_
        refine q_iconst (v := 0) o_Rd_actHere_56 (by decide) ?_
        exact q_ire o_Rd_actHere_57 rfl h9
      · have h10 := h8.2.1 (by simpa using hx)
        refine q_tabIn (tgt := 58) (off := 31) o_Rd_actHere_27 c1 c2 (by rw [show (q_smap.getD k6 0).toInt = 25 by simpa using hx]; rfl) (by decide) ?_
        refine q_iconst (v := 1) o_Rd_actHere_58 (by decide) ?_
        exact q_ire o_Rd_actHere_59 rfl h10
      · have h11 := h8.2.2.1 (by simpa using hx)
        refine q_tabIn (tgt := 60) (off := 33) o_Rd_actHere_27 c1 c2 (by rw [show (q_smap.getD k6 0).toInt = 26 by simpa using hx]; rfl) (by decide) ?_
        refine q_iconst (v := 2) o_Rd_actHere_60 (by decide) ?_
        exact q_ire o_Rd_actHere_61 rfl h11
      · have h12 := h8.2.2.2 (by simpa using hx)
        refine q_tabIn (tgt := 62) (off := 35) o_Rd_actHere_27 c1 c2 (by rw [show (q_smap.getD k6 0).toInt = 27 by simpa using hx]; rfl) (by decide) ?_
        refine q_iconst (v := 3) o_Rd_actHere_62 (by decide) ?_
        exact q_ire o_Rd_actHere_63 rfl h12
  · have h13 := h.2 c1
    refine q_iconst (v := (-1)) o_Rd_actHere_11 (by decide) ?_
    exact q_ire o_Rd_actHere_12 rfl h13

set_option maxRecDepth 20000 in
theorem v_Rd_isNewName_0 {G : q_G} {d : Nat} {σ : q_S} {Q : Option Value → q_S → Prop} {p0 : Nat} (hp0 : q_isTw p0) (hs : q_Sh σ) (h : q_Call G d 0 0 X_Tk_isName [.ref 3] σ (q_ri (fun x4 σ2 => ((¬ x4 = 0 → q_Call G d 0 0 X_Tw_houseNamed [.ref p0, .long (q_L σ2 3 5)] σ2 (q_ri (fun x10 σ8 => ((¬ x10 = (-1) → q_Call G d 0 0 X_Tk_refuse [.ref 3, .int 3] σ8 (q_ri (fun x17 σ15 => (narrow .boolean (.int (if x17 = 0 then (0 : Int32) else (1 : Int32))) = .int (if x17 = 0 then (0 : Int32) else (1 : Int32)) ∧ Q (some (.int (if x17 = 0 then (0 : Int32) else (1 : Int32)))) σ15)))) ∧ (x10 = (-1) → q_Call G d 0 0 X_Tw_familyNamed [.ref p0, .long (q_L σ8 3 5)] σ8 (q_ri (fun x23 σ21 => (((if x23 = (-1) then (0 : Int32) else (1 : Int32)) = 0 → Q (some (.int 1)) σ21) ∧ (¬ (if x23 = (-1) then (0 : Int32) else (1 : Int32)) = 0 → q_Call G d 0 0 X_Tk_refuse [.ref 3, .int 3] σ21 (q_ri (fun x31 σ29 => (narrow .boolean (.int (if x31 = 0 then (0 : Int32) else (1 : Int32))) = .int (if x31 = 0 then (0 : Int32) else (1 : Int32)) ∧ Q (some (.int (if x31 = 0 then (0 : Int32) else (1 : Int32)))) σ29)))))))))))) ∧ (x4 = 0 → q_Call G d 0 0 X_Tk_refuse [.ref 3, .int 1] σ2 (q_ri (fun x37 σ35 => (narrow .boolean (.int x37) = .int x37 ∧ Q (some (.int x37)) σ35)))))))) : q_At G X_Rd_isNewName (d + 1) 0 0 0 [some (.ref 4), some (.ref p0), none] [] σ Q := by
  refine q_aload_n o_Rd_isNewName_0 rfl ?_
  refine q2_getR hs o_Rd_isNewName_1 f_Rd_9 rfl (fz_4_0 hs) ?_
  refine q2_callVi _ (a := 3) (As := []) (st := []) hs o_Rd_isNewName_4 k_Rd_227 rfl rfl (Nat.le_of_ble_eq_true rfl) h (fun x4 σ2 hs3 h1 => ?_)
  refine q_if_ne o_Rd_isNewName_7 (fun c5 => ?_) (fun c5 => ?_)
  · have h6 := h1.1 c5
    refine q_aload_n o_Rd_isNewName_19 rfl ?_
    refine q_aload_n o_Rd_isNewName_20 rfl ?_
    refine q2_getR hs3 o_Rd_isNewName_21 f_Rd_9 rfl (fz_4_0 hs3) ?_
    refine q2_getL hs3 o_Rd_isNewName_24 f_Rd_110 rfl ?_
    refine q2_callVi _ (a := p0) (As := [.long (q_L σ2 3 5)]) (st := []) hs3 o_Rd_isNewName_27 k_Rd_231 (kd_Tw_0 hp0) rfl (Nat.le_of_ble_eq_true rfl) h6 (fun x10 σ8 hs9 h7 => ?_)
    refine q_iconst (v := (-1)) o_Rd_isNewName_30 (by decide) ?_
    refine q_icmp_ne o_Rd_isNewName_31 (fun c11 => ?_) (fun c11 => ?_)
    · have h12 := h7.1 c11
      refine q_iconst (v := 1) o_Rd_isNewName_49 (by decide) ?_
      refine q_goto o_Rd_isNewName_50 ?_
      refine q2_istn (ls' := [some (.ref 4), some (.ref p0), some (.int 1)]) o_Rd_isNewName_54 (Nat.le_of_ble_eq_true rfl) rfl ?_
      refine q_iload_n o_Rd_isNewName_55 rfl ?_
      refine q_if_eq o_Rd_isNewName_56 (fun c13 => absurd c13 (by decide)) (fun _ => ?_)
      refine q_aload_n o_Rd_isNewName_59 rfl ?_
      refine q2_getR hs9 o_Rd_isNewName_60 f_Rd_9 rfl (fz_4_0 hs9) ?_
      refine q_iconst (v := 3) o_Rd_isNewName_63 (by decide) ?_
      refine q2_callVi _ (a := 3) (As := [.int 3]) (st := []) hs9 o_Rd_isNewName_64 k_Rd_43 rfl rfl (Nat.le_of_ble_eq_true rfl) h12 (fun x17 σ15 hs16 h14 => ?_)
      have hJ : ∀ vJ : Int32, vJ = (if x17 = 0 then (0 : Int32) else (1 : Int32)) → q_At G X_Rd_isNewName (d + 1) 0 0 75 [some (.ref 4), some (.ref p0), some (.int 1)] [.int vJ] σ15 Q := by
        intro vJ eJ
        rw [eJ]
        clear eJ vJ
        exact q_zre o_Rd_isNewName_75 rfl h14.1 h14.2
      refine q_if_eq o_Rd_isNewName_67 (fun c18 => ?_) (fun c18 => ?_)
      · refine q_iconst (v := 0) o_Rd_isNewName_74 (by decide) ?_
        exact hJ _ (Eq.symm (if_pos c18))
      · refine q_iconst (v := 1) o_Rd_isNewName_70 (by decide) ?_
        refine q_goto o_Rd_isNewName_71 ?_
        exact hJ _ (Eq.symm (if_neg c18))
    · have h19 := h7.2 c11
      refine q_aload_n o_Rd_isNewName_34 rfl ?_
      refine q_aload_n o_Rd_isNewName_35 rfl ?_
      refine q2_getR hs9 o_Rd_isNewName_36 f_Rd_9 rfl (fz_4_0 hs9) ?_
      refine q2_getL hs9 o_Rd_isNewName_39 f_Rd_110 rfl ?_
      refine q2_callVi _ (a := p0) (As := [.long (q_L σ8 3 5)]) (st := []) hs9 o_Rd_isNewName_42 k_Rd_235 (kd_Tw_0 hp0) rfl (Nat.le_of_ble_eq_true rfl) h19 (fun x23 σ21 hs22 h20 => ?_)
      refine q_iconst (v := (-1)) o_Rd_isNewName_45 (by decide) ?_
      have hJ : ∀ vJ : Int32, vJ = (if x23 = (-1) then (0 : Int32) else (1 : Int32)) → q_At G X_Rd_isNewName (d + 1) 0 0 54 [some (.ref 4), some (.ref p0), none] [.int vJ] σ21 Q := by
        intro vJ eJ
        rw [eJ]
        clear eJ vJ
        refine q2_istn (ls' := [some (.ref 4), some (.ref p0), some (.int (if x23 = (-1) then (0 : Int32) else (1 : Int32)))]) o_Rd_isNewName_54 (Nat.le_of_ble_eq_true rfl) rfl ?_
        refine q_iload_n o_Rd_isNewName_55 rfl ?_
        refine q_if_eq o_Rd_isNewName_56 (fun c25 => ?_) (fun c25 => ?_)
        · have h26 := h20.1 c25
          refine q_iconst (v := 1) o_Rd_isNewName_70 (by decide) ?_
          refine q_goto o_Rd_isNewName_71 ?_
          exact q_zre o_Rd_isNewName_75 rfl rfl h26
        · have h27 := h20.2 c25
          refine q_aload_n o_Rd_isNewName_59 rfl ?_
          refine q2_getR hs22 o_Rd_isNewName_60 f_Rd_9 rfl (fz_4_0 hs22) ?_
          refine q_iconst (v := 3) o_Rd_isNewName_63 (by decide) ?_
          refine q2_callVi _ (a := 3) (As := [.int 3]) (st := []) hs22 o_Rd_isNewName_64 k_Rd_43 rfl rfl (Nat.le_of_ble_eq_true rfl) h27 (fun x31 σ29 hs30 h28 => ?_)
          have hJ : ∀ vJ : Int32, vJ = (if x31 = 0 then (0 : Int32) else (1 : Int32)) → q_At G X_Rd_isNewName (d + 1) 0 0 75 [some (.ref 4), some (.ref p0), some (.int (if x23 = (-1) then (0 : Int32) else (1 : Int32)))] [.int vJ] σ29 Q := by
            intro vJ eJ
            rw [eJ]
            clear eJ vJ
            exact q_zre o_Rd_isNewName_75 rfl h28.1 h28.2
          refine q_if_eq o_Rd_isNewName_67 (fun c32 => ?_) (fun c32 => ?_)
          · refine q_iconst (v := 0) o_Rd_isNewName_74 (by decide) ?_
            exact hJ _ (Eq.symm (if_pos c32))
          · refine q_iconst (v := 1) o_Rd_isNewName_70 (by decide) ?_
            refine q_goto o_Rd_isNewName_71 ?_
            exact hJ _ (Eq.symm (if_neg c32))
      refine q_icmp_eq o_Rd_isNewName_46 (fun c24 => ?_) (fun c24 => ?_)
      · refine q_iconst (v := 0) o_Rd_isNewName_53 (by decide) ?_
        exact hJ _ (Eq.symm (if_pos c24))
      · refine q_iconst (v := 1) o_Rd_isNewName_49 (by decide) ?_
        refine q_goto o_Rd_isNewName_50 ?_
        exact hJ _ (Eq.symm (if_neg c24))
  · have h33 := h1.2 c5
    refine q_aload_n o_Rd_isNewName_10 rfl ?_
    refine q2_getR hs3 o_Rd_isNewName_11 f_Rd_9 rfl (fz_4_0 hs3) ?_
    refine q_iconst (v := 1) o_Rd_isNewName_14 (by decide) ?_
    refine q2_callVi _ (a := 3) (As := [.int 1]) (st := []) hs3 o_Rd_isNewName_15 k_Rd_43 rfl rfl (Nat.le_of_ble_eq_true rfl) h33 (fun x37 σ35 hs36 h34 => ?_)
    exact q_zre o_Rd_isNewName_18 rfl h34.1 h34.2

set_option maxRecDepth 20000 in
theorem v_Rd_readTwo_0 {G : q_G} {d : Nat} {σ : q_S} {Q : Option Value → q_S → Prop} {p0 : Nat} {p1 : Int32} (hp0 : q_isTw p0) (hs : q_Sh σ) (h : q_Call G d 0 0 X_Rd_toldHere [.ref 4, .ref p0, .int p1] σ (q_ri (fun x4 σ2 => ((¬ (q_I (q_setI σ2 4 1 x4) 4 1) = (-1) → q_Call G d 0 0 X_Tk_advance [.ref 3] (q_setI σ2 4 1 x4) (q_rv (fun σ8 => q_Call G d 0 0 X_Rd_toldHere [.ref 4, .ref p0, .int p1] σ8 (q_ri (fun x13 σ11 => ((¬ (q_I (q_setI σ11 4 2 x13) 4 2) = (-1) → ((¬ (q_I (q_setI σ11 4 2 x13) 4 1) = (q_I (q_setI σ11 4 2 x13) 4 2) → Q (some (.int 1)) (q_setI σ11 4 2 x13)) ∧ ((q_I (q_setI σ11 4 2 x13) 4 1) = (q_I (q_setI σ11 4 2 x13) 4 2) → q_Call G d 0 0 X_Tk_refuse [.ref 3, .int 3] (q_setI σ11 4 2 x13) (q_ri (fun x22 σ20 => (narrow .boolean (.int (if x22 = 0 then (0 : Int32) else (1 : Int32))) = .int (if x22 = 0 then (0 : Int32) else (1 : Int32)) ∧ Q (some (.int (if x22 = 0 then (0 : Int32) else (1 : Int32)))) σ20)))))) ∧ ((q_I (q_setI σ11 4 2 x13) 4 2) = (-1) → Q (some (.int 0)) (q_setI σ11 4 2 x13)))))))) ∧ ((q_I (q_setI σ2 4 1 x4) 4 1) = (-1) → Q (some (.int 0)) (q_setI σ2 4 1 x4)))))) : q_At G X_Rd_readTwo (d + 1) 0 0 0 [some (.ref 4), some (.ref p0), some (.int p1)] [] σ Q := by
  refine q_aload_n o_Rd_readTwo_0 rfl ?_
  refine q_aload_n o_Rd_readTwo_1 rfl ?_
  refine q_aload_n o_Rd_readTwo_2 rfl ?_
  refine q_iload_n o_Rd_readTwo_3 rfl ?_
  refine q2_callVi _ (a := 4) (As := [.ref p0, .int p1]) (st := [.ref 4]) hs o_Rd_readTwo_4 k_Rd_238 rfl rfl (Nat.le_of_ble_eq_true rfl) h (fun x4 σ2 hs3 h1 => ?_)
  refine q2_putI hs3 o_Rd_readTwo_7 fp_Rd_118 rfl rfl rfl ?_
  refine q_aload_n o_Rd_readTwo_10 rfl ?_
  refine q2_getI hs3 o_Rd_readTwo_11 f_Rd_118 rfl ?_
  refine q_iconst (v := (-1)) o_Rd_readTwo_14 (by decide) ?_
  refine q_icmp_ne o_Rd_readTwo_15 (fun c5 => ?_) (fun c5 => ?_)
  · have h6 := h1.1 c5
    refine q_aload_n o_Rd_readTwo_20 rfl ?_
    refine q2_getR hs3 o_Rd_readTwo_21 f_Rd_9 rfl (fz_4_0 hs3) ?_
    refine q2_callVv _ (a := 3) (As := []) (st := []) hs3 o_Rd_readTwo_24 k_Rd_100 rfl rfl (Nat.le_of_ble_eq_true rfl) h6 (fun σ8 hs9 h7 => ?_)
    refine q_aload_n o_Rd_readTwo_27 rfl ?_
    refine q_aload_n o_Rd_readTwo_28 rfl ?_
    refine q_aload_n o_Rd_readTwo_29 rfl ?_
    refine q_iload_n o_Rd_readTwo_30 rfl ?_
    refine q2_callVi _ (a := 4) (As := [.ref p0, .int p1]) (st := [.ref 4]) hs9 o_Rd_readTwo_31 k_Rd_238 rfl rfl (Nat.le_of_ble_eq_true rfl) h7 (fun x13 σ11 hs12 h10 => ?_)
    refine q2_putI hs12 o_Rd_readTwo_34 fp_Rd_121 rfl rfl rfl ?_
    refine q_aload_n o_Rd_readTwo_37 rfl ?_
    refine q2_getI hs12 o_Rd_readTwo_38 f_Rd_121 rfl ?_
    refine q_iconst (v := (-1)) o_Rd_readTwo_41 (by decide) ?_
    refine q_icmp_ne o_Rd_readTwo_42 (fun c14 => ?_) (fun c14 => ?_)
    · have h15 := h10.1 c14
      refine q_aload_n o_Rd_readTwo_47 rfl ?_
      refine q2_getI hs12 o_Rd_readTwo_48 f_Rd_118 rfl ?_
      refine q_aload_n o_Rd_readTwo_51 rfl ?_
      refine q2_getI hs12 o_Rd_readTwo_52 f_Rd_121 rfl ?_
      refine q_icmp_ne o_Rd_readTwo_55 (fun c16 => ?_) (fun c16 => ?_)
      · have h17 := h15.1 c16
        refine q_iconst (v := 1) o_Rd_readTwo_69 (by decide) ?_
        refine q_goto o_Rd_readTwo_70 ?_
        exact q_zre o_Rd_readTwo_74 rfl rfl h17
      · have h18 := h15.2 c16
        refine q_aload_n o_Rd_readTwo_58 rfl ?_
        refine q2_getR hs12 o_Rd_readTwo_59 f_Rd_9 rfl (fz_4_0 hs12) ?_
        refine q_iconst (v := 3) o_Rd_readTwo_62 (by decide) ?_
        refine q2_callVi _ (a := 3) (As := [.int 3]) (st := []) hs12 o_Rd_readTwo_63 k_Rd_43 rfl rfl (Nat.le_of_ble_eq_true rfl) h18 (fun x22 σ20 hs21 h19 => ?_)
        have hJ : ∀ vJ : Int32, vJ = (if x22 = 0 then (0 : Int32) else (1 : Int32)) → q_At G X_Rd_readTwo (d + 1) 0 0 74 [some (.ref 4), some (.ref p0), some (.int p1)] [.int vJ] σ20 Q := by
          intro vJ eJ
          rw [eJ]
          clear eJ vJ
          exact q_zre o_Rd_readTwo_74 rfl h19.1 h19.2
        refine q_if_eq o_Rd_readTwo_66 (fun c23 => ?_) (fun c23 => ?_)
        · refine q_iconst (v := 0) o_Rd_readTwo_73 (by decide) ?_
          exact hJ _ (Eq.symm (if_pos c23))
        · refine q_iconst (v := 1) o_Rd_readTwo_69 (by decide) ?_
          refine q_goto o_Rd_readTwo_70 ?_
          exact hJ _ (Eq.symm (if_neg c23))
    · have h24 := h10.2 c14
      refine q_iconst (v := 0) o_Rd_readTwo_45 (by decide) ?_
      exact q_zre o_Rd_readTwo_46 rfl rfl h24
  · have h25 := h1.2 c5
    refine q_iconst (v := 0) o_Rd_readTwo_18 (by decide) ?_
    exact q_zre o_Rd_readTwo_19 rfl rfl h25

set_option maxRecDepth 20000 in
theorem v_Rd_toldHere_0 {G : q_G} {d : Nat} {σ : q_S} {Q : Option Value → q_S → Prop} {p0 : Nat} {p1 : Int32} (hp0 : q_isTw p0) (hs : q_Sh σ) (h : q_Call G d 0 0 X_Tk_isName [.ref 3] σ (q_ri (fun x4 σ2 => ((¬ x4 = 0 → ((p1 = 0 → q_Call G d 0 0 X_Tw_familyNamed [.ref p0, .long (q_L σ2 3 5)] σ2 (q_ri (fun x12 σ10 => ((¬ x12 = (-1) → Q (some (.int x12)) σ10) ∧ (x12 = (-1) → q_Call G d 0 0 X_Tk_refuse [.ref 3, .int 2] σ10 (q_ri (fun x19 σ17 => Q (some (.int x12)) σ17))))))) ∧ (¬ p1 = 0 → q_Call G d 0 0 X_Tw_houseNamed [.ref p0, .long (q_L σ2 3 5)] σ2 (q_ri (fun x24 σ22 => ((¬ x24 = (-1) → Q (some (.int x24)) σ22) ∧ (x24 = (-1) → q_Call G d 0 0 X_Tk_refuse [.ref 3, .int 2] σ22 (q_ri (fun x31 σ29 => Q (some (.int x24)) σ29))))))))) ∧ (x4 = 0 → q_Call G d 0 0 X_Tk_refuse [.ref 3, .int 1] σ2 (q_ri (fun x36 σ34 => Q (some (.int (-1))) σ34))))))) : q_At G X_Rd_toldHere (d + 1) 0 0 0 [some (.ref 4), some (.ref p0), some (.int p1), none] [] σ Q := by
  refine q_aload_n o_Rd_toldHere_0 rfl ?_
  refine q2_getR hs o_Rd_toldHere_1 f_Rd_9 rfl (fz_4_0 hs) ?_
  refine q2_callVi _ (a := 3) (As := []) (st := []) hs o_Rd_toldHere_4 k_Rd_227 rfl rfl (Nat.le_of_ble_eq_true rfl) h (fun x4 σ2 hs3 h1 => ?_)
  refine q_if_ne o_Rd_toldHere_7 (fun c5 => ?_) (fun c5 => ?_)
  · have h6 := h1.1 c5
    refine q_iload_n o_Rd_toldHere_21 rfl ?_
    refine q_if_eq o_Rd_toldHere_22 (fun c7 => ?_) (fun c7 => ?_)
    · have h8 := h6.1 c7
      refine q_aload_n o_Rd_toldHere_39 rfl ?_
      refine q_aload_n o_Rd_toldHere_40 rfl ?_
      refine q2_getR hs3 o_Rd_toldHere_41 f_Rd_9 rfl (fz_4_0 hs3) ?_
      refine q2_getL hs3 o_Rd_toldHere_44 f_Rd_110 rfl ?_
      refine q2_callVi _ (a := p0) (As := [.long (q_L σ2 3 5)]) (st := []) hs3 o_Rd_toldHere_47 k_Rd_235 (kd_Tw_0 hp0) rfl (Nat.le_of_ble_eq_true rfl) h8 (fun x12 σ10 hs11 h9 => ?_)
      refine q2_istn (ls' := [some (.ref 4), some (.ref p0), some (.int p1), some (.int x12)]) o_Rd_toldHere_50 (Nat.le_of_ble_eq_true rfl) rfl ?_
      refine q_iload_n o_Rd_toldHere_51 rfl ?_
      refine q_iconst (v := (-1)) o_Rd_toldHere_52 (by decide) ?_
      refine q_icmp_ne o_Rd_toldHere_53 (fun c13 => ?_) (fun c13 => ?_)
      · have h14 := h9.1 c13
        refine q_iload_n o_Rd_toldHere_65 rfl ?_
        exact q_ire o_Rd_toldHere_66 rfl h14
      · have h15 := h9.2 c13
        refine q_aload_n o_Rd_toldHere_56 rfl ?_
        refine q2_getR hs11 o_Rd_toldHere_57 f_Rd_9 rfl (fz_4_0 hs11) ?_
        refine q_iconst (v := 2) o_Rd_toldHere_60 (by decide) ?_
        refine q2_callVi _ (a := 3) (As := [.int 2]) (st := []) hs11 o_Rd_toldHere_61 k_Rd_43 rfl rfl (Nat.le_of_ble_eq_true rfl) h15 (fun x19 σ17 hs18 h16 => ?_)
        refine q_pop o_Rd_toldHere_64 rfl ?_
        refine q_iload_n o_Rd_toldHere_65 rfl ?_
        exact q_ire o_Rd_toldHere_66 rfl h16
    · have h20 := h6.2 c7
      refine q_aload_n o_Rd_toldHere_25 rfl ?_
      refine q_aload_n o_Rd_toldHere_26 rfl ?_
      refine q2_getR hs3 o_Rd_toldHere_27 f_Rd_9 rfl (fz_4_0 hs3) ?_
      refine q2_getL hs3 o_Rd_toldHere_30 f_Rd_110 rfl ?_
      refine q2_callVi _ (a := p0) (As := [.long (q_L σ2 3 5)]) (st := []) hs3 o_Rd_toldHere_33 k_Rd_231 (kd_Tw_0 hp0) rfl (Nat.le_of_ble_eq_true rfl) h20 (fun x24 σ22 hs23 h21 => ?_)
      refine q_goto o_Rd_toldHere_36 ?_
      refine q2_istn (ls' := [some (.ref 4), some (.ref p0), some (.int p1), some (.int x24)]) o_Rd_toldHere_50 (Nat.le_of_ble_eq_true rfl) rfl ?_
      refine q_iload_n o_Rd_toldHere_51 rfl ?_
      refine q_iconst (v := (-1)) o_Rd_toldHere_52 (by decide) ?_
      refine q_icmp_ne o_Rd_toldHere_53 (fun c25 => ?_) (fun c25 => ?_)
      · have h26 := h21.1 c25
        refine q_iload_n o_Rd_toldHere_65 rfl ?_
        exact q_ire o_Rd_toldHere_66 rfl h26
      · have h27 := h21.2 c25
        refine q_aload_n o_Rd_toldHere_56 rfl ?_
        refine q2_getR hs23 o_Rd_toldHere_57 f_Rd_9 rfl (fz_4_0 hs23) ?_
        refine q_iconst (v := 2) o_Rd_toldHere_60 (by decide) ?_
        refine q2_callVi _ (a := 3) (As := [.int 2]) (st := []) hs23 o_Rd_toldHere_61 k_Rd_43 rfl rfl (Nat.le_of_ble_eq_true rfl) h27 (fun x31 σ29 hs30 h28 => ?_)
        refine q_pop o_Rd_toldHere_64 rfl ?_
        refine q_iload_n o_Rd_toldHere_65 rfl ?_
        exact q_ire o_Rd_toldHere_66 rfl h28
  · have h32 := h1.2 c5
    refine q_aload_n o_Rd_toldHere_10 rfl ?_
    refine q2_getR hs3 o_Rd_toldHere_11 f_Rd_9 rfl (fz_4_0 hs3) ?_
    refine q_iconst (v := 1) o_Rd_toldHere_14 (by decide) ?_
    refine q2_callVi _ (a := 3) (As := [.int 1]) (st := []) hs3 o_Rd_toldHere_15 k_Rd_43 rfl rfl (Nat.le_of_ble_eq_true rfl) h32 (fun x36 σ34 hs35 h33 => ?_)
    refine q_pop o_Rd_toldHere_18 rfl ?_
    refine q_iconst (v := (-1)) o_Rd_toldHere_19 (by decide) ?_
    exact q_ire o_Rd_toldHere_20 rfl h33
