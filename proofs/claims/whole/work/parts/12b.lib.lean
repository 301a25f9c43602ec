theorem n_JI_265 : Cond.constant "java/lang/Integer" 265 (1431655765) ∈ q_GT := q_in5 (i := 142) rfl rfl
theorem n_JI_266 : Cond.constant "java/lang/Integer" 266 (858993459) ∈ q_GT := q_in5 (i := 143) rfl rfl
theorem n_JI_267 : Cond.constant "java/lang/Integer" 267 (252645135) ∈ q_GT := q_in5 (i := 144) rfl rfl
set_option maxRecDepth 20000 in
theorem v_JS_indexOf_0 {G : q_G} {d : Nat} {σ : q_S} {Q : Option Value → q_S → Prop} {p0 : Int32}  (hs : q_Sh σ) (h : q_Call G d 0 0 X_JS_indexOf_5 [.ref 1043, .int p0, .int 0] σ (q_ri (fun x4 σ2 => Q (some (.int x4)) σ2))) : q_At G X_JS_indexOf (d + 1) 0 0 0 [some (.ref 1043), some (.int p0)] [] σ Q := by
  refine q_aload_n o_JS_indexOf_0 rfl ?_
  refine q_iload_n o_JS_indexOf_1 rfl ?_
  refine q_iconst (v := 0) o_JS_indexOf_2 (by decide) ?_
  refine q2_callWi _ (a := 1043) (As := [.int p0, .int 0]) (st := []) hs o_JS_indexOf_3 k_JS_633 (fun U H hh => hh.2.2.2.2.2.2.1.2.1) rfl (Nat.le_of_ble_eq_true rfl) h (fun x4 σ2 hs3 h1 => ?_)
  exact q_ire o_JS_indexOf_6 rfl h1

set_option maxRecDepth 20000 in
theorem v_JS_indexOf_5_0 {G : q_G} {d : Nat} {σ : q_S} {Q : Option Value → q_S → Prop} {p0 : Int32} {p1 : Int32}  (hs : q_Sh σ) (h : q_Call G d 0 0 X_JS_isLatin1 [.ref 1043] σ (q_ri (fun x4 σ2 => ((x4 = 0 → q_Call G d 0 0 X_JS_length [.ref 1043] σ2 (q_ri (fun x10 σ8 => False))) ∧ (¬ x4 = 0 → q_Call G d 0 0 X_JS_length [.ref 1043] σ2 (q_ri (fun x15 σ13 => q_Call G d 0 0 X_JL_indexOf [.ref 1044, .int p0, .int p1, .int x15] σ13 (q_ri (fun x19 σ17 => Q (some (.int x19)) σ17))))))))) : q_At G X_JS_indexOf_5 (d + 1) 0 0 0 [some (.ref 1043), some (.int p0), some (.int p1)] [] σ Q := by
  refine q_aload_n o_JS_indexOf_5_0 rfl ?_
  refine q2_callWi _ (a := 1043) (As := []) (st := []) hs o_JS_indexOf_5_1 k_JS_492 (fun U H hh => hh.2.2.2.2.2.2.1.2.1) rfl (Nat.le_of_ble_eq_true rfl) h (fun x4 σ2 hs3 h1 => ?_)
  refine q_if_eq o_JS_indexOf_5_4 (fun c5 => ?_) (fun c5 => ?_)
  · have h6 := h1.1 c5
    refine q_aload_n o_JS_indexOf_5_23 rfl ?_
    refine q_getS (w := .ref 1044) o_JS_indexOf_5_24 fs_JS_9 (fun U H hh => hh.2.2.2.2.2.2.1.2.2.1) ?_
    refine q_iload_n o_JS_indexOf_5_27 rfl ?_
    refine q_iload_n o_JS_indexOf_5_28 rfl ?_
    refine q_aload_n o_JS_indexOf_5_29 rfl ?_
    refine q2_callWi _ (a := 1043) (As := []) (st := [.int p1, .int p0, .ref 1044]) hs3 o_JS_indexOf_5_30 k_JS_505 (fun U H hh => hh.2.2.2.2.2.2.1.2.1) rfl (Nat.le_of_ble_eq_true rfl) h6 (fun x10 σ8 hs9 h7 => ?_)
    exact h7.elim
  · have h11 := h1.2 c5
    refine q_aload_n o_JS_indexOf_5_7 rfl ?_
    refine q_getS (w := .ref 1044) o_JS_indexOf_5_8 fs_JS_9 (fun U H hh => hh.2.2.2.2.2.2.1.2.2.1) ?_
    refine q_iload_n o_JS_indexOf_5_11 rfl ?_
    refine q_iload_n o_JS_indexOf_5_12 rfl ?_
    refine q_aload_n o_JS_indexOf_5_13 rfl ?_
    refine q2_callWi _ (a := 1043) (As := []) (st := [.int p1, .int p0, .ref 1044]) hs3 o_JS_indexOf_5_14 k_JS_505 (fun U H hh => hh.2.2.2.2.2.2.1.2.1) rfl (Nat.le_of_ble_eq_true rfl) h11 (fun x15 σ13 hs14 h12 => ?_)
    refine q2_callSi _ (As := [.ref 1044, .int p0, .int p1, .int x15]) (st := []) hs14 o_JS_indexOf_5_17 k_JS_637 rfl (Nat.le_of_ble_eq_true rfl) h12 (fun x19 σ17 hs18 h16 => ?_)
    refine q_goto o_JS_indexOf_5_20 ?_
    exact q_ire o_JS_indexOf_5_36 rfl h16

set_option maxRecDepth 20000 in
theorem v_JS_isLatin1_0 {G : q_G} {d : Nat} {σ : q_S} {Q : Option Value → q_S → Prop}   (hs : q_Sh σ) (h : Q (some (.int 1)) σ) : q_At G X_JS_isLatin1 d 0 0 0 [some (.ref 1043)] [] σ Q := by
  refine q_gets (w := .int 1) o_JS_isLatin1_0 s_JS_38 (fun U H hh => hh.2.2.2.2.2.2.1.2.2.2.2.2) ?_
  refine q_if_eq o_JS_isLatin1_3 (fun c1 => absurd c1 (by decide)) (fun _ => ?_)
  refine q_aload_n o_JS_isLatin1_6 rfl ?_
  refine q_getS (w := .int 0) o_JS_isLatin1_7 fs_JS_15 (fun U H hh => hh.2.2.2.2.2.2.1.2.2.2.1) ?_
  refine q_if_ne o_JS_isLatin1_10 (fun c2 => absurd c2 (by decide)) (fun _ => ?_)
  refine q_iconst (v := 1) o_JS_isLatin1_13 (by decide) ?_
  refine q_goto o_JS_isLatin1_14 ?_
  exact q_zre o_JS_isLatin1_18 rfl rfl h

set_option maxRecDepth 20000 in
theorem v_JS_length_0 {G : q_G} {d : Nat} {σ : q_S} {Q : Option Value → q_S → Prop}   (hs : q_Sh σ) (h : q_Call G d 0 0 X_JS_coder [.ref 1043] σ (q_ri (fun x4 σ2 => Q (some (.int ((nI 8) >>> (x4 &&& 31)))) σ2))) : q_At G X_JS_length (d + 1) 0 0 0 [some (.ref 1043)] [] σ Q := by
  refine q_aload_n o_JS_length_0 rfl ?_
  refine q_getS (w := .ref 1044) o_JS_length_1 fs_JS_9 (fun U H hh => hh.2.2.2.2.2.2.1.2.2.1) ?_
  refine q_tlen o_JS_length_4 (fun U H hh => hh.2.2.2.2.2.2.1.2.2.2.2.1) ?_
  refine q_aload_n o_JS_length_5 rfl ?_
  refine q2_callWi _ (a := 1043) (As := []) (st := [.int (nI 8)]) hs o_JS_length_6 k_JS_335 (fun U H hh => hh.2.2.2.2.2.2.1.2.1) rfl (Nat.le_of_ble_eq_true rfl) h (fun x4 σ2 hs3 h1 => ?_)
  refine q_ishr o_JS_length_9 ?_
  exact q_ire o_JS_length_10 rfl h1

set_option maxRecDepth 20000 in
theorem v_JS_coder_0 {G : q_G} {d : Nat} {σ : q_S} {Q : Option Value → q_S → Prop}   (hs : q_Sh σ) (h : (narrow .byte (.int 0) = .int 0 ∧ Q (some (.int 0)) σ)) : q_At G X_JS_coder d 0 0 0 [some (.ref 1043)] [] σ Q := by
  refine q_gets (w := .int 1) o_JS_coder_0 s_JS_38 (fun U H hh => hh.2.2.2.2.2.2.1.2.2.2.2.2) ?_
  refine q_if_eq o_JS_coder_3 (fun c1 => absurd c1 (by decide)) (fun _ => ?_)
  refine q_aload_n o_JS_coder_6 rfl ?_
  refine q_getS (w := .int 0) o_JS_coder_7 fs_JS_15 (fun U H hh => hh.2.2.2.2.2.2.1.2.2.2.1) ?_
  refine q_goto o_JS_coder_10 ?_
  exact q_ret (r := some (.int 0)) ⟨o_JS_coder_14.1, _, rfl, h.1⟩ rfl h.2

set_option maxRecDepth 20000 in
theorem v_JL_canEncode_0 {G : q_G} {d : Nat} {σ : q_S} {Q : Option Value → q_S → Prop} {p0 : Int32}  (hs : q_Sh σ) (h : (narrow .boolean (.int (if p0 < 0 then (0 : Int32) else (if 255 < p0 then (0 : Int32) else (1 : Int32)))) = .int (if p0 < 0 then (0 : Int32) else (if 255 < p0 then (0 : Int32) else (1 : Int32))) ∧ Q (some (.int (if p0 < 0 then (0 : Int32) else (if 255 < p0 then (0 : Int32) else (1 : Int32))))) σ)) : q_At G X_JL_canEncode d 0 0 0 [some (.int p0)] [] σ Q := by
  refine q_iload_n o_JL_canEncode_0 rfl ?_
  have hJ : ∀ vJ : Int32, vJ = (if p0 < 0 then (0 : Int32) else (if 255 < p0 then (0 : Int32) else (1 : Int32))) → q_At G X_JL_canEncode d 0 0 16 [some (.int p0)] [.int vJ] σ Q := by
    intro vJ eJ
    rw [eJ]
    clear eJ vJ
    exact q_zre o_JL_canEncode_16 rfl h.1 h.2
  refine q_if_lt o_JL_canEncode_1 (fun c1 => ?_) (fun c1 => ?_)
  · refine q_iconst (v := 0) o_JL_canEncode_15 (by decide) ?_
    exact hJ _ (Eq.symm (if_pos c1))
  · refine q_iload_n o_JL_canEncode_4 rfl ?_
    refine q_sipush (v := 255) o_JL_canEncode_5 (by decide) ?_
    refine q_icmp_gt o_JL_canEncode_8 (fun c2 => ?_) (fun c2 => ?_)
    · refine q_iconst (v := 0) o_JL_canEncode_15 (by decide) ?_
      exact hJ _ (Eq.symm ((if_neg c1).trans (if_pos c2)))
    · refine q_iconst (v := 1) o_JL_canEncode_11 (by decide) ?_
      refine q_goto o_JL_canEncode_12 ?_
      exact hJ _ (Eq.symm ((if_neg c1).trans (if_neg c2)))

set_option maxRecDepth 20000 in
theorem v_JL_indexOf_0 {G : q_G} {d : Nat} {σ : q_S} {Q : Option Value → q_S → Prop} {p1 : Int32} {p2 : Int32} {p3 : Int32}  (hs : q_Sh σ) (h : q_Call G d 0 0 X_JL_canEncode [.int p1] σ (q_ri (fun x4 σ2 => ((¬ x4 = 0 → (((if p2 < 0 then 0 else p2) < (if (nI 8) < p3 then (nI 8) else p3) → q_Call G d 0 0 X_JL_indexOfChar [.ref 1044, .int p1, .int (if p2 < 0 then 0 else p2), .int (if (nI 8) < p3 then (nI 8) else p3)] σ2 (q_ri (fun x12 σ10 => Q (some (.int x12)) σ10))) ∧ (¬ (if p2 < 0 then 0 else p2) < (if (nI 8) < p3 then (nI 8) else p3) → Q (some (.int (-1))) σ2))) ∧ (x4 = 0 → Q (some (.int (-1))) σ2))))) : q_At G X_JL_indexOf (d + 1) 0 0 0 [some (.ref 1044), some (.int p1), some (.int p2), some (.int p3)] [] σ Q := by
  refine q_iload_n o_JL_indexOf_0 rfl ?_
  refine q2_callSi _ (As := [.int p1]) (st := []) hs o_JL_indexOf_1 k_JL_88 rfl (Nat.le_of_ble_eq_true rfl) h (fun x4 σ2 hs3 h1 => ?_)
  refine q_if_ne o_JL_indexOf_4 (fun c5 => ?_) (fun c5 => ?_)
  · have h6 := h1.1 c5
    refine q_iload_n o_JL_indexOf_9 rfl ?_
    refine q_iconst (v := 0) o_JL_indexOf_10 (by decide) ?_
    refine q_max o_JL_indexOf_11 k_JL_92 (Nat.le_of_ble_eq_true rfl) ?_
    refine q2_istn (ls' := [some (.ref 1044), some (.int p1), some (.int (if p2 < 0 then 0 else p2)), some (.int p3)]) o_JL_indexOf_14 (Nat.le_of_ble_eq_true rfl) rfl ?_
    refine q_iload_n o_JL_indexOf_15 rfl ?_
    refine q_aload_n o_JL_indexOf_16 rfl ?_
    refine q_tlen o_JL_indexOf_17 (fun U H hh => hh.2.2.2.2.2.2.1.2.2.2.2.1) ?_
    refine q_min o_JL_indexOf_18 k_JL_38 (Nat.le_of_ble_eq_true rfl) ?_
    refine q2_istn (ls' := [some (.ref 1044), some (.int p1), some (.int (if p2 < 0 then 0 else p2)), some (.int (if (nI 8) < p3 then (nI 8) else p3))]) o_JL_indexOf_21 (Nat.le_of_ble_eq_true rfl) rfl ?_
    refine q_iload_n o_JL_indexOf_22 rfl ?_
    refine q_iload_n o_JL_indexOf_23 rfl ?_
    refine q_icmp_lt o_JL_indexOf_24 (fun c7 => ?_) (fun c7 => ?_)
    · have h8 := h6.1 c7
      refine q_aload_n o_JL_indexOf_29 rfl ?_
      refine q_iload_n o_JL_indexOf_30 rfl ?_
      refine q_iload_n o_JL_indexOf_31 rfl ?_
      refine q_iload_n o_JL_indexOf_32 rfl ?_
      refine q2_callSi _ (As := [.ref 1044, .int p1, .int (if p2 < 0 then 0 else p2), .int (if (nI 8) < p3 then (nI 8) else p3)]) (st := []) hs3 o_JL_indexOf_33 k_JL_95 rfl (Nat.le_of_ble_eq_true rfl) h8 (fun x12 σ10 hs11 h9 => ?_)
      exact q_ire o_JL_indexOf_36 rfl h9
    · have h13 := h6.2 c7
      refine q_iconst (v := (-1)) o_JL_indexOf_27 (by decide) ?_
      exact q_ire o_JL_indexOf_28 rfl h13
  · have h14 := h1.2 c5
    refine q_iconst (v := (-1)) o_JL_indexOf_7 (by decide) ?_
    exact q_ire o_JL_indexOf_8 rfl h14

set_option maxRecDepth 20000 in
theorem v_JL_indexOfChar_0 {G : q_G} {d : Nat} {σ : q_S} {Q : Option Value → q_S → Prop} {p1 : Int32} {p2 : Int32} {p3 : Int32}  (hs : q_Sh σ) (h : q_At G X_JL_indexOfChar d 0 0 7 [some (.ref 1044), some (.int p1), some (.int p2), some (.int p3), some (.int p1.toInt8.toInt32), some (.int p2)] [] σ Q) : q_At G X_JL_indexOfChar d 0 0 0 [some (.ref 1044), some (.int p1), some (.int p2), some (.int p3), none, none] [] σ Q := by
  refine q_iload_n o_JL_indexOfChar_0 rfl ?_
  refine q_i2b o_JL_indexOfChar_1 ?_
  refine q2_ist (ls' := [some (.ref 1044), some (.int p1), some (.int p2), some (.int p3), some (.int p1.toInt8.toInt32), none]) o_JL_indexOfChar_2 (Nat.le_of_ble_eq_true rfl) rfl ?_
  refine q_iload_n o_JL_indexOfChar_4 rfl ?_
  refine q2_ist (ls' := [some (.ref 1044), some (.int p1), some (.int p2), some (.int p3), some (.int p1.toInt8.toInt32), some (.int p2)]) o_JL_indexOfChar_5 (Nat.le_of_ble_eq_true rfl) rfl ?_
  exact h

set_option maxRecDepth 20000 in
theorem v_JL_indexOfChar_7 {G : q_G} {d : Nat} {σ : q_S} {Q : Option Value → q_S → Prop} {p1 : Int32} {p2 : Int32} {p3 : Int32} {l4 : Int32} {l5 : Int32}  (hs : q_Sh σ) (h : ((p3 ≤ l5 → Q (some (.int (-1))) σ) ∧ (¬ p3 ≤ l5 → (∃ k5, l5 = nI k5 ∧ k5 < 8 ∧ ((¬ (q_sgn.getD k5 0) = l4 → q_At G X_JL_indexOfChar d 0 0 7 [some (.ref 1044), some (.int p1), some (.int p2), some (.int p3), some (.int l4), some (.int (l5 + 1))] [] σ Q) ∧ ((q_sgn.getD k5 0) = l4 → Q (some (.int l5)) σ)))))) : q_At G X_JL_indexOfChar d 0 0 7 [some (.ref 1044), some (.int p1), some (.int p2), some (.int p3), some (.int l4), some (.int l5)] [] σ Q := by
  refine q_iload o_JL_indexOfChar_7 rfl ?_
  refine q_iload_n o_JL_indexOfChar_9 rfl ?_
  refine q_icmp_ge o_JL_indexOfChar_10 (fun c1 => ?_) (fun c1 => ?_)
  · have h2 := h.1 c1
    refine q_iconst (v := (-1)) o_JL_indexOfChar_31 (by decide) ?_
    exact q_ire o_JL_indexOfChar_32 rfl h2
  · have h3 := h.2 c1
    refine q_aload_n o_JL_indexOfChar_13 rfl ?_
    refine q_iload o_JL_indexOfChar_14 rfl ?_
    obtain ⟨k5, eh4, bh4, h4⟩ := h3
    refine q_tb (w := .int (q_sgn.getD k5 0)) o_JL_indexOfChar_16 (fun U H hh => hh.2.2.2.2.2.2.1.2.2.2.2.1) eh4 bh4 (by decide) rfl ?_
    refine q_iload o_JL_indexOfChar_17 rfl ?_
    refine q_icmp_ne o_JL_indexOfChar_19 (fun c6 => ?_) (fun c6 => ?_)
    · have h7 := h4.1 c6
      refine q2_inc (v := (l5 + 1)) (ls' := [some (.ref 1044), some (.int p1), some (.int p2), some (.int p3), some (.int l4), some (.int (l5 + 1))]) o_JL_indexOfChar_25 rfl rfl (Nat.le_of_ble_eq_true rfl) rfl ?_
      refine q_goto o_JL_indexOfChar_28 ?_
      exact h7
    · have h8 := h4.2 c6
      refine q_iload o_JL_indexOfChar_22 rfl ?_
      exact q_ire o_JL_indexOfChar_24 rfl h8

set_option maxRecDepth 20000 in
theorem v_JE_ordinal_0 {G : q_G} {d : Nat} {σ : q_S} {Q : Option Value → q_S → Prop} {a0 : Nat} (ha0 : a0 < 34) (hs : q_Sh σ) (h : Q (some (.int (nI a0))) σ) : q_At G X_JE_ordinal d 0 0 0 [some (.ref (1001 + a0))] [] σ Q := by
  refine q_aload_n o_JE_ordinal_0 rfl ?_
  refine q_getS (w := .int (nI a0)) o_JE_ordinal_1 fs_JE_7 (fun U H hh => by rw [q_ad_ge (by omega)]; exact (hh.1 _ ha0).2.2.1) ?_
  exact q_ire o_JE_ordinal_4 rfl h

set_option maxRecDepth 20000 in
theorem v_JI_bitCount_0 {G : q_G} {d : Nat} {σ : q_S} {Q : Option Value → q_S → Prop} {p0 : Int32}  (hs : q_Sh σ) (h : Q (some (.int ((((((((p0 - ((p0.toUInt32 >>> ((1 : Int32).toUInt32 &&& Int32.toUInt32 31)).toInt32 &&& 1431655765)) &&& 858993459) + (((p0 - ((p0.toUInt32 >>> ((1 : Int32).toUInt32 &&& Int32.toUInt32 31)).toInt32 &&& 1431655765)).toUInt32 >>> ((2 : Int32).toUInt32 &&& Int32.toUInt32 31)).toInt32 &&& 858993459)) + ((((p0 - ((p0.toUInt32 >>> ((1 : Int32).toUInt32 &&& Int32.toUInt32 31)).toInt32 &&& 1431655765)) &&& 858993459) + (((p0 - ((p0.toUInt32 >>> ((1 : Int32).toUInt32 &&& Int32.toUInt32 31)).toInt32 &&& 1431655765)).toUInt32 >>> ((2 : Int32).toUInt32 &&& Int32.toUInt32 31)).toInt32 &&& 858993459)).toUInt32 >>> ((4 : Int32).toUInt32 &&& Int32.toUInt32 31)).toInt32) &&& 252645135) + ((((((p0 - ((p0.toUInt32 >>> ((1 : Int32).toUInt32 &&& Int32.toUInt32 31)).toInt32 &&& 1431655765)) &&& 858993459) + (((p0 - ((p0.toUInt32 >>> ((1 : Int32).toUInt32 &&& Int32.toUInt32 31)).toInt32 &&& 1431655765)).toUInt32 >>> ((2 : Int32).toUInt32 &&& Int32.toUInt32 31)).toInt32 &&& 858993459)) + ((((p0 - ((p0.toUInt32 >>> ((1 : Int32).toUInt32 &&& Int32.toUInt32 31)).toInt32 &&& 1431655765)) &&& 858993459) + (((p0 - ((p0.toUInt32 >>> ((1 : Int32).toUInt32 &&& Int32.toUInt32 31)).toInt32 &&& 1431655765)).toUInt32 >>> ((2 : Int32).toUInt32 &&& Int32.toUInt32 31)).toInt32 &&& 858993459)).toUInt32 >>> ((4 : Int32).toUInt32 &&& Int32.toUInt32 31)).toInt32) &&& 252645135).toUInt32 >>> ((8 : Int32).toUInt32 &&& Int32.toUInt32 31)).toInt32) + (((((((p0 - ((p0.toUInt32 >>> ((1 : Int32).toUInt32 &&& Int32.toUInt32 31)).toInt32 &&& 1431655765)) &&& 858993459) + (((p0 - ((p0.toUInt32 >>> ((1 : Int32).toUInt32 &&& Int32.toUInt32 31)).toInt32 &&& 1431655765)).toUInt32 >>> ((2 : Int32).toUInt32 &&& Int32.toUInt32 31)).toInt32 &&& 858993459)) + ((((p0 - ((p0.toUInt32 >>> ((1 : Int32).toUInt32 &&& Int32.toUInt32 31)).toInt32 &&& 1431655765)) &&& 858993459) + (((p0 - ((p0.toUInt32 >>> ((1 : Int32).toUInt32 &&& Int32.toUInt32 31)).toInt32 &&& 1431655765)).toUInt32 >>> ((2 : Int32).toUInt32 &&& Int32.toUInt32 31)).toInt32 &&& 858993459)).toUInt32 >>> ((4 : Int32).toUInt32 &&& Int32.toUInt32 31)).toInt32) &&& 252645135) + ((((((p0 - ((p0.toUInt32 >>> ((1 : Int32).toUInt32 &&& Int32.toUInt32 31)).toInt32 &&& 1431655765)) &&& 858993459) + (((p0 - ((p0.toUInt32 >>> ((1 : Int32).toUInt32 &&& Int32.toUInt32 31)).toInt32 &&& 1431655765)).toUInt32 >>> ((2 : Int32).toUInt32 &&& Int32.toUInt32 31)).toInt32 &&& 858993459)) + ((((p0 - ((p0.toUInt32 >>> ((1 : Int32).toUInt32 &&& Int32.toUInt32 31)).toInt32 &&& 1431655765)) &&& 858993459) + (((p0 - ((p0.toUInt32 >>> ((1 : Int32).toUInt32 &&& Int32.toUInt32 31)).toInt32 &&& 1431655765)).toUInt32 >>> ((2 : Int32).toUInt32 &&& Int32.toUInt32 31)).toInt32 &&& 858993459)).toUInt32 >>> ((4 : Int32).toUInt32 &&& Int32.toUInt32 31)).toInt32) &&& 252645135).toUInt32 >>> ((8 : Int32).toUInt32 &&& Int32.toUInt32 31)).toInt32).toUInt32 >>> ((16 : Int32).toUInt32 &&& Int32.toUInt32 31)).toInt32) &&& 63))) σ) : q_At G X_JI_bitCount d 0 0 0 [some (.int p0)] [] σ Q := by
  refine q_iload_n o_JI_bitCount_0 rfl ?_
  refine q_iload_n o_JI_bitCount_1 rfl ?_
  refine q_iconst (v := 1) o_JI_bitCount_2 (by decide) ?_
  refine q_iushr o_JI_bitCount_3 ?_
  refine q_ldcw o_JI_bitCount_4 n_JI_265 ?_
  refine q_iand o_JI_bitCount_7 ?_
  refine q_isub o_JI_bitCount_8 ?_
  refine q2_istn (ls' := [some (.int (p0 - ((p0.toUInt32 >>> ((1 : Int32).toUInt32 &&& Int32.toUInt32 31)).toInt32 &&& 1431655765)))]) o_JI_bitCount_9 (Nat.le_of_ble_eq_true rfl) rfl ?_
  refine q_iload_n o_JI_bitCount_10 rfl ?_
  refine q_ldcw o_JI_bitCount_11 n_JI_266 ?_
  refine q_iand o_JI_bitCount_14 ?_
  refine q_iload_n o_JI_bitCount_15 rfl ?_
  refine q_iconst (v := 2) o_JI_bitCount_16 (by decide) ?_
  refine q_iushr o_JI_bitCount_17 ?_
  refine q_ldcw o_JI_bitCount_18 n_JI_266 ?_
  refine q_iand o_JI_bitCount_21 ?_
  refine q_iadd o_JI_bitCount_22 ?_
  refine q2_istn (ls' := [some (.int (((p0 - ((p0.toUInt32 >>> ((1 : Int32).toUInt32 &&& Int32.toUInt32 31)).toInt32 &&& 1431655765)) &&& 858993459) + (((p0 - ((p0.toUInt32 >>> ((1 : Int32).toUInt32 &&& Int32.toUInt32 31)).toInt32 &&& 1431655765)).toUInt32 >>> ((2 : Int32).toUInt32 &&& Int32.toUInt32 31)).toInt32 &&& 858993459)))]) o_JI_bitCount_23 (Nat.le_of_ble_eq_true rfl) rfl ?_
  refine q_iload_n o_JI_bitCount_24 rfl ?_
  refine q_iload_n o_JI_bitCount_25 rfl ?_
  refine q_iconst (v := 4) o_JI_bitCount_26 (by decide) ?_
  refine q_iushr o_JI_bitCount_27 ?_
  refine q_iadd o_JI_bitCount_28 ?_
  refine q_ldcw o_JI_bitCount_29 n_JI_267 ?_
  refine q_iand o_JI_bitCount_32 ?_
  refine q2_istn (ls' := [some (.int (((((p0 - ((p0.toUInt32 >>> ((1 : Int32).toUInt32 &&& Int32.toUInt32 31)).toInt32 &&& 1431655765)) &&& 858993459) + (((p0 - ((p0.toUInt32 >>> ((1 : Int32).toUInt32 &&& Int32.toUInt32 31)).toInt32 &&& 1431655765)).toUInt32 >>> ((2 : Int32).toUInt32 &&& Int32.toUInt32 31)).toInt32 &&& 858993459)) + ((((p0 - ((p0.toUInt32 >>> ((1 : Int32).toUInt32 &&& Int32.toUInt32 31)).toInt32 &&& 1431655765)) &&& 858993459) + (((p0 - ((p0.toUInt32 >>> ((1 : Int32).toUInt32 &&& Int32.toUInt32 31)).toInt32 &&& 1431655765)).toUInt32 >>> ((2 : Int32).toUInt32 &&& Int32.toUInt32 31)).toInt32 &&& 858993459)).toUInt32 >>> ((4 : Int32).toUInt32 &&& Int32.toUInt32 31)).toInt32) &&& 252645135))]) o_JI_bitCount_33 (Nat.le_of_ble_eq_true rfl) rfl ?_
  refine q_iload_n o_JI_bitCount_34 rfl ?_
  refine q_iload_n o_JI_bitCount_35 rfl ?_
  refine q_bipush (v := 8) o_JI_bitCount_36 (by decide) ?_
  refine q_iushr o_JI_bitCount_38 ?_
  refine q_iadd o_JI_bitCount_39 ?_
  refine q2_istn (ls' := [some (.int ((((((p0 - ((p0.toUInt32 >>> ((1 : Int32).toUInt32 &&& Int32.toUInt32 31)).toInt32 &&& 1431655765)) &&& 858993459) + (((p0 - ((p0.toUInt32 >>> ((1 : Int32).toUInt32 &&& Int32.toUInt32 31)).toInt32 &&& 1431655765)).toUInt32 >>> ((2 : Int32).toUInt32 &&& Int32.toUInt32 31)).toInt32 &&& 858993459)) + ((((p0 - ((p0.toUInt32 >>> ((1 : Int32).toUInt32 &&& Int32.toUInt32 31)).toInt32 &&& 1431655765)) &&& 858993459) + (((p0 - ((p0.toUInt32 >>> ((1 : Int32).toUInt32 &&& Int32.toUInt32 31)).toInt32 &&& 1431655765)).toUInt32 >>> ((2 : Int32).toUInt32 &&& Int32.toUInt32 31)).toInt32 &&& 858993459)).toUInt32 >>> ((4 : Int32).toUInt32 &&& Int32.toUInt32 31)).toInt32) &&& 252645135) + ((((((p0 - ((p0.toUInt32 >>> ((1 : Int32).toUInt32 &&& Int32.toUInt32 31)).toInt32 &&& 1431655765)) &&& 858993459) + (((p0 - ((p0.toUInt32 >>> ((1 : Int32).toUInt32 &&& Int32.toUInt32 31)).toInt32 &&& 1431655765)).toUInt32 >>> ((2 : Int32).toUInt32 &&& Int32.toUInt32 31)).toInt32 &&& 858993459)) + ((((p0 - ((p0.toUInt32 >>> ((1 : Int32).toUInt32 &&& Int32.toUInt32 31)).toInt32 &&& 1431655765)) &&& 858993459) + (((p0 - ((p0.toUInt32 >>> ((1 : Int32).toUInt32 &&& Int32.toUInt32 31)).toInt32 &&& 1431655765)).toUInt32 >>> ((2 : Int32).toUInt32 &&& Int32.toUInt32 31)).toInt32 &&& 858993459)).toUInt32 >>> ((4 : Int32).toUInt32 &&& Int32.toUInt32 31)).toInt32) &&& 252645135).toUInt32 >>> ((8 : Int32).toUInt32 &&& Int32.toUInt32 31)).toInt32))]) o_JI_bitCount_40 (Nat.le_of_ble_eq_true rfl) rfl ?_
  refine q_iload_n o_JI_bitCount_41 rfl ?_
  refine q_iload_n o_JI_bitCount_42 rfl ?_
  refine q_bipush (v := 16) o_JI_bitCount_43 (by decide) ?_
  refine q_iushr o_JI_bitCount_45 ?_
  refine q_iadd o_JI_bitCount_46 ?_
  refine q2_istn (ls' := [some (.int (((((((p0 - ((p0.toUInt32 >>> ((1 : Int32).toUInt32 &&& Int32.toUInt32 31)).toInt32 &&& 1431655765)) &&& 858993459) + (((p0 - ((p0.toUInt32 >>> ((1 : Int32).toUInt32 &&& Int32.toUInt32 31)).toInt32 &&& 1431655765)).toUInt32 >>> ((2 : Int32).toUInt32 &&& Int32.toUInt32 31)).toInt32 &&& 858993459)) + ((((p0 - ((p0.toUInt32 >>> ((1 : Int32).toUInt32 &&& Int32.toUInt32 31)).toInt32 &&& 1431655765)) &&& 858993459) + (((p0 - ((p0.toUInt32 >>> ((1 : Int32).toUInt32 &&& Int32.toUInt32 31)).toInt32 &&& 1431655765)).toUInt32 >>> ((2 : Int32).toUInt32 &&& Int32.toUInt32 31)).toInt32 &&& 858993459)).toUInt32 >>> ((4 : Int32).toUInt32 &&& Int32.toUInt32 31)).toInt32) &&& 252645135) + ((((((p0 - ((p0.toUInt32 >>> ((1 : Int32).toUInt32 &&& Int32.toUInt32 31)).toInt32 &&& 1431655765)) &&& 858993459) + (((p0 - ((p0.toUInt32 >>> ((1 : Int32).toUInt32 &&& Int32.toUInt32 31)).toInt32 &&& 1431655765)).toUInt32 >>> ((2 : Int32).toUInt32 &&& Int32.toUInt32 31)).toInt32 &&& 858993459)) + ((((p0 - ((p0.toUInt32 >>> ((1 : Int32).toUInt32 &&& Int32.toUInt32 31)).toInt32 &&& 1431655765)) &&& 858993459) + (((p0 - ((p0.toUInt32 >>> ((1 : Int32).toUInt32 &&& Int32.toUInt32 31)).toInt32 &&& 1431655765)).toUInt32 >>> ((2 : Int32).toUInt32 &&& Int32.toUInt32 31)).toInt32 &&& 858993459)).toUInt32 >>> ((4 : Int32).toUInt32 &&& Int32.toUInt32 31)).toInt32) &&& 252645135).toUInt32 >>> ((8 : Int32).toUInt32 &&& Int32.toUInt32 31)).toInt32) + (((((((p0 - ((p0.toUInt32 >>> ((1 : Int32).toUInt32 &&& Int32.toUInt32 31)).toInt32 &&& 1431655765)) &&& 858993459) + (((p0 - ((p0.toUInt32 >>> ((1 : Int32).toUInt32 &&& Int32.toUInt32 31)).toInt32 &&& 1431655765)).toUInt32 >>> ((2 : Int32).toUInt32 &&& Int32.toUInt32 31)).toInt32 &&& 858993459)) + ((((p0 - ((p0.toUInt32 >>> ((1 : Int32).toUInt32 &&& Int32.toUInt32 31)).toInt32 &&& 1431655765)) &&& 858993459) + (((p0 - ((p0.toUInt32 >>> ((1 : Int32).toUInt32 &&& Int32.toUInt32 31)).toInt32 &&& 1431655765)).toUInt32 >>> ((2 : Int32).toUInt32 &&& Int32.toUInt32 31)).toInt32 &&& 858993459)).toUInt32 >>> ((4 : Int32).toUInt32 &&& Int32.toUInt32 31)).toInt32) &&& 252645135) + ((((((p0 - ((p0.toUInt32 >>> ((1 : Int32).toUInt32 &&& Int32.toUInt32 31)).toInt32 &&& 1431655765)) &&& 858993459) + (((p0 - ((p0.toUInt32 >>> ((1 : Int32).toUInt32 &&& Int32.toUInt32 31)).toInt32 &&& 1431655765)).toUInt32 >>> ((2 : Int32).toUInt32 &&& Int32.toUInt32 31)).toInt32 &&& 858993459)) + ((((p0 - ((p0.toUInt32 >>> ((1 : Int32).toUInt32 &&& Int32.toUInt32 31)).toInt32 &&& 1431655765)) &&& 858993459) + (((p0 - ((p0.toUInt32 >>> ((1 : Int32).toUInt32 &&& Int32.toUInt32 31)).toInt32 &&& 1431655765)).toUInt32 >>> ((2 : Int32).toUInt32 &&& Int32.toUInt32 31)).toInt32 &&& 858993459)).toUInt32 >>> ((4 : Int32).toUInt32 &&& Int32.toUInt32 31)).toInt32) &&& 252645135).toUInt32 >>> ((8 : Int32).toUInt32 &&& Int32.toUInt32 31)).toInt32).toUInt32 >>> ((16 : Int32).toUInt32 &&& Int32.toUInt32 31)).toInt32))]) o_JI_bitCount_47 (Nat.le_of_ble_eq_true rfl) rfl ?_
  refine q_iload_n o_JI_bitCount_48 rfl ?_
  refine q_bipush (v := 63) o_JI_bitCount_49 (by decide) ?_
  refine q_iand o_JI_bitCount_51 ?_
  exact q_ire o_JI_bitCount_52 rfl h

theorem JE_ordinal_ok {G : q_G} {d k : Nat} {σ : q_S} (hk : k < 34) (hs : q_Sh σ) : q_Call G d 0 0 X_JE_ordinal [.ref (1001 + k)] σ (fun r σ1 => r = some (.int (nI k)) ∧ σ1 = σ) := by
  refine q_enter (by decide +kernel) (Nat.le_of_ble_eq_true rfl) ?_
  refine q_aload_n o_JE_ordinal_0 rfl ?_
  refine q_getS (w := .int (nI k)) o_JE_ordinal_1 fs_JE_7 (fun U H hh => by rw [q_ad_ge (by omega)]; exact (hh.1 _ hk).2.2.1) ?_
  exact q_ire o_JE_ordinal_4 rfl ⟨q_no_i, rfl, rfl⟩
/-- a contract that answers an int, changes nothing, out of its walk -/
theorem q_ci {G : q_G} {d : Nat} {Y : q_M} {vs : List Value} {σ : q_S} {v : Int32} (hp : plainName (m_y Y).cls = true) (hn : (q_vin vs).length ≤ m_m Y) (h : ∀ Q : Option Value → q_S → Prop, Q (some (.int v)) σ → q_At G Y d 0 0 0 (q_init vs (m_m Y)) [] σ Q) {Q : Option Value → q_S → Prop} (hq : Q (some (.int v)) σ) : q_Call G d 0 0 Y vs σ Q := q_enter hp hn (h _ ⟨q_no_i, hq⟩)
theorem JS_coder_ok {G : q_G} {d : Nat} {σ : q_S} {Q : Option Value → q_S → Prop} (hs : q_Sh σ) (h : Q (some (.int 0)) σ) : q_Call G (d + 1) 0 0 X_JS_coder [.ref 1043] σ Q := q_ci (by decide +kernel) (Nat.le_of_ble_eq_true rfl) (fun Q hq => v_JS_coder_0 hs ⟨rfl, hq⟩) h
theorem JS_length_ok {G : q_G} {d : Nat} {σ : q_S} {Q : Option Value → q_S → Prop} (hs : q_Sh σ) (h : Q (some (.int (nI 8))) σ) : q_Call G (d + 2) 0 0 X_JS_length [.ref 1043] σ Q := q_ci (by decide +kernel) (Nat.le_of_ble_eq_true rfl) (fun Q hq => v_JS_length_0 hs (JS_coder_ok hs ⟨hs, _, rfl, by exact hq⟩)) h
theorem JS_isLatin1_ok {G : q_G} {d : Nat} {σ : q_S} {Q : Option Value → q_S → Prop} (hs : q_Sh σ) (h : Q (some (.int 1)) σ) : q_Call G (d + 1) 0 0 X_JS_isLatin1 [.ref 1043] σ Q := q_ci (by decide +kernel) (Nat.le_of_ble_eq_true rfl) (fun Q hq => v_JS_isLatin1_0 hs hq) h
