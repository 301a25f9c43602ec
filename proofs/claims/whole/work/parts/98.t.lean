set_option maxRecDepth 20000 in
theorem v_Tw_feltBy_0 {G : q_G} {d : Nat} {σ : q_S} {Q : Option Value → q_S → Prop} {a0 : Nat} {p0 : Nat} {p1 : Int32} (ha0 : q_isTw a0) (hp0 : q_kd p0 = (1, 6)) (hs : q_Sh σ) (h : q_At G X_Tw_feltBy (d + 1) 0 0 5 [some (.ref a0), some (.ref p0), some (.int p1), some (.int 0), some (.int 0), none] [] σ Q) : q_At G X_Tw_feltBy (d + 1) 0 0 0 [some (.ref a0), some (.ref p0), some (.int p1), none, none, none] [] σ Q := by
  refine q_iconst (v := 0) o_Tw_feltBy_0 (by decide) ?_
  refine q2_istn (ls' := [some (.ref a0), some (.ref p0), some (.int p1), some (.int 0), none, none]) o_Tw_feltBy_1 (Nat.le_of_ble_eq_true rfl) rfl ?_
  refine q_iconst (v := 0) o_Tw_feltBy_2 (by decide) ?_
  refine q2_ist (ls' := [some (.ref a0), some (.ref p0), some (.int p1), some (.int 0), some (.int 0), none]) o_Tw_feltBy_3 (Nat.le_of_ble_eq_true rfl) rfl ?_
  exact h

set_option maxRecDepth 20000 in
theorem v_Tw_feltBy_5 {G : q_G} {d : Nat} {σ : q_S} {Q : Option Value → q_S → Prop} {a0 : Nat} {p0 : Nat} {p1 : Int32} {l3 : Int32} {l4 : Int32} (ha0 : q_isTw a0) (hs : q_Sh σ) (h : (((q_I σ a0 14) ≤ l4 → Q (some (.int l3)) σ) ∧ (¬ (q_I σ a0 14) ≤ l4 → q_Call G d 0 0 X_Tw_thickBetween [.ref a0, .ref p0, .int p1, .int l4] σ (q_ri (fun x7 σ5 => ((x7 = 0 → q_At G X_Tw_feltBy (d + 1) 0 0 5 [some (.ref a0), some (.ref p0), some (.int p1), some (.int l3), some (.int (l4 + 1)), none] [] σ5 Q) ∧ (¬ x7 = 0 → q_Call G d 0 0 X_Tw_heardPlace [.int p1, .int l4, .int x7] σ5 (q_ri (fun x14 σ12 => (∃ k16, x14 = nI k16 ∧ k16 < 360 ∧ q_At G X_Tw_feltBy (d + 1) 0 0 5 [some (.ref a0), some (.ref p0), some (.int p1), some (.int (l3 + (q_I σ12 (a0 + 12) k16))), some (.int (l4 + 1)), none] [] σ12 Q)))))))))) : q_At G X_Tw_feltBy (d + 1) 0 0 5 [some (.ref a0), some (.ref p0), some (.int p1), some (.int l3), some (.int l4), none] [] σ Q := by
  refine q_iload o_Tw_feltBy_5 rfl ?_
  refine q_aload_n o_Tw_feltBy_7 rfl ?_
  refine q2_getI hs o_Tw_feltBy_8 f_Tw_60 (kd_Tw_0 ha0) ?_
  refine q_icmp_ge o_Tw_feltBy_11 (fun c1 => ?_) (fun c1 => ?_)
  · have h2 := h.1 c1
    refine q_iload_n o_Tw_feltBy_51 rfl ?_
    exact q_ire o_Tw_feltBy_52 rfl h2
  · have h3 := h.2 c1
    refine q_aload_n o_Tw_feltBy_14 rfl ?_
    refine q_aload_n o_Tw_feltBy_15 rfl ?_
    refine q_iload_n o_Tw_feltBy_16 rfl ?_
    refine q_iload o_Tw_feltBy_17 rfl ?_
    refine q2_callVi _ (a := a0) (As := [.ref p0, .int p1, .int l4]) (st := []) hs o_Tw_feltBy_19 k_Tw_93 (kd_Tw_0 ha0) rfl (Nat.le_of_ble_eq_true rfl) h3 (fun x7 σ5 hs6 h4 => ?_)
    refine q2_ist (ls' := [some (.ref a0), some (.ref p0), some (.int p1), some (.int l3), some (.int l4), some (.int x7)]) o_Tw_feltBy_22 (Nat.le_of_ble_eq_true rfl) rfl ?_
    refine q_iload o_Tw_feltBy_24 rfl ?_
    refine q_if_eq o_Tw_feltBy_26 (fun c8 => ?_) (fun c8 => ?_)
    · have h9 := h4.1 c8
      refine q2_inc (v := (l4 + 1)) (ls' := [some (.ref a0), some (.ref p0), some (.int p1), some (.int l3), some (.int (l4 + 1)), some (.int x7)]) o_Tw_feltBy_45 rfl rfl (Nat.le_of_ble_eq_true rfl) rfl ?_
      refine q_goto o_Tw_feltBy_48 ?_
      exact q_weak (ls' := [some (.ref a0), some (.ref p0), some (.int p1), some (.int l3), some (.int (l4 + 1)), none]) (And.intro rfl (And.intro rfl (And.intro rfl (And.intro rfl (And.intro rfl trivial))))) h9
    · have h10 := h4.2 c8
      refine q_iload_n o_Tw_feltBy_29 rfl ?_
      refine q_aload_n o_Tw_feltBy_30 rfl ?_
      refine q2_getR hs6 o_Tw_feltBy_31 f_Tw_46 (kd_Tw_0 ha0) (fz_Tw_11 hs6 ha0) ?_
      refine q_iload_n o_Tw_feltBy_34 rfl ?_
      refine q_iload o_Tw_feltBy_35 rfl ?_
      refine q_iload o_Tw_feltBy_37 rfl ?_
      refine q2_callSi _ (As := [.int p1, .int l4, .int x7]) (st := [.ref (a0 + 12), .int l3]) hs6 o_Tw_feltBy_39 k_Tw_86 rfl (Nat.le_of_ble_eq_true rfl) h10 (fun x14 σ12 hs13 h11 => ?_)
      obtain ⟨k16, eh15, bh15, h15⟩ := h11
      refine q2_iald hs13 o_Tw_feltBy_42 (kd_Tw_12 ha0) eh15 bh15 (by decide) ?_
      refine q_iadd o_Tw_feltBy_43 ?_
      refine q2_istn (ls' := [some (.ref a0), some (.ref p0), some (.int p1), some (.int (l3 + (q_I σ12 (a0 + 12) k16))), some (.int l4), some (.int x7)]) o_Tw_feltBy_44 (Nat.le_of_ble_eq_true rfl) rfl ?_
      refine q2_inc (v := (l4 + 1)) (ls' := [some (.ref a0), some (.ref p0), some (.int p1), some (.int (l3 + (q_I σ12 (a0 + 12) k16))), some (.int (l4 + 1)), some (.int x7)]) o_Tw_feltBy_45 rfl rfl (Nat.le_of_ble_eq_true rfl) rfl ?_
      refine q_goto o_Tw_feltBy_48 ?_
      exact q_weak (ls' := [some (.ref a0), some (.ref p0), some (.int p1), some (.int (l3 + (q_I σ12 (a0 + 12) k16))), some (.int (l4 + 1)), none]) (And.intro rfl (And.intro rfl (And.intro rfl (And.intro rfl (And.intro rfl trivial))))) h15
