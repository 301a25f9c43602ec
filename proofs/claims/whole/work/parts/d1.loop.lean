theorem and31 (x : Int32) : ∃ n, n < 32 ∧ x &&& 31 = nI n := by
  refine ⟨x.toBitVec.toNat % 32, Nat.mod_lt _ (by decide), ?_⟩
  apply Int32.toBitVec_inj.mp
  apply BitVec.eq_of_toNat_eq
  have e1 : (x &&& 31).toBitVec = x.toBitVec &&& 31#32 := rfl
  have e2 : (nI (x.toBitVec.toNat % 32)).toBitVec = BitVec.ofNat 32 (x.toBitVec.toNat % 32) := rfl
  rw [e1, e2, BitVec.toNat_and, BitVec.toNat_ofNat, BitVec.toNat_ofNat, show 31 % 2 ^ 32 = 2 ^ 5 - 1 from rfl, Nat.and_two_pow_sub_one_eq_mod]
  omega
theorem lenI {L i : Nat} (hL : L ≤ 3584) (hi : i ≤ 4000) : (¬ nI L - 7 < nI i) → i + 7 ≤ L := by
  intro h
  have e1 : (nI L - 7).toInt = (L : Int) - 7 := by
    rw [Int32.toInt_sub, nI_toInt (by omega), show (7 : Int32).toInt = 7 by decide]
    exact Int.bmod_eq_of_le (by omega) (by omega)
  rw [Int32.lt_iff_toInt_lt, e1, nI_toInt (by omega)] at h
  omega
section LAW
variable {G : q_G} {d b sb pc nx : Nat} {X : q_M} {ls ls' : List (Option Value)} {st : List Value} {σ : q_S} {Q : Option Value → q_S → Prop}
theorem l_astn {j : Fin 4} {v : Nat} (hd : q_D X pc (.astore_n j) 1 nx) (hn : (j : Nat) < m_m X) (hl : q_st1 ls j (.ref v) = ls') (k : q_At G X d b sb nx ls' st σ Q) : q_At G X d b sb pc ls (.ref v :: st) σ Q := q_astore_n hd hn (hl ▸ k)
theorem law_case {k i : Nat} (hst : (g_l G).stackTraces = false) (hi : i + 7 ≤ g_L G) (hN : g_L G ≤ 3584) (hI : Inv σ) (next : ∀ σ2, Inv σ2 → q_At G X_L_law (d + 51) k (6 * k) 1413 [some (.ref 1000), some (.ref 0), some (.ref 159), some (.ref 182), some (.int (nI i)), none, none] [] σ2 Q) : q_At G X_L_law (d + 51) (k + 1) (6 * (k + 1)) 40 [some (.ref 1000), some (.ref 0), some (.ref 159), some (.ref 182), some (.int (nI i)), none, none] [.int (g_xs G i &&& 31)] σ Q := by
  have hN2 : g_L G < 2 ^ 31 := by omega
  obtain ⟨n, hn, e⟩ := and31 (g_xs G i)
  rw [e]
  have nx : ∀ σ2, q_Sh σ2 → Inv σ2 → q_At G X_L_law (d + 50 + 1) k (6 * k) 1413 [some (.ref 1000), some (.ref 0), some (.ref 159), some (.ref 182), some (.int (nI i)), none, none] [] σ2 Q := fun σ2 _ h => next σ2 h
  rcases (by omega : n = 0 ∨ n = 1 ∨ n = 2 ∨ n = 3 ∨ n = 4 ∨ n = 5 ∨ n = 6 ∨ n = 7 ∨ n = 8 ∨ n = 9 ∨ n = 10 ∨ n = 11 ∨ n = 12 ∨ n = 13 ∨ n = 14 ∨ n = 15 ∨ n = 16 ∨ n = 17 ∨ n = 18 ∨ n = 19 ∨ n = 20 ∨ n = 21 ∨ n = 22 ∨ n = 23 ∨ n = 24 ∨ n = 25 ∨ n = 26 ∨ n = 27 ∨ n = 28 ∨ n = 29 ∨ n = 30 ∨ n = 31) with rfl | rfl | rfl | rfl | rfl | rfl | rfl | rfl | rfl | rfl | rfl | rfl | rfl | rfl | rfl | rfl | rfl | rfl | rfl | rfl | rfl | rfl | rfl | rfl | rfl | rfl | rfl | rfl | rfl | rfl | rfl | rfl
  · exact q_tabIn o_L_law_40 (by decide) (by decide) rfl (tgt := 180) rfl (l_more (b := k) (sb := 6 * k) (by omega) (by omega) (vl_0 Inv hi hN2 hI.1 (iv_0 hI) nx))
  · exact q_tabIn o_L_law_40 (by decide) (by decide) rfl (tgt := 327) rfl (l_more (b := k) (sb := 6 * k) (by omega) (by omega) (vl_1 Inv hi hN2 hI.1 (iv_1 hI) nx))
  · exact q_tabIn o_L_law_40 (by decide) (by decide) rfl (tgt := 340) rfl (l_more (b := k) (sb := 6 * k) (by omega) (by omega) (vl_2 Inv hi hN2 hI.1 (iv_2 hI) nx))
  · exact q_tabIn o_L_law_40 (by decide) (by decide) rfl (tgt := 353) rfl (l_more (b := k) (sb := 6 * k) (by omega) (by omega) (vl_3 Inv hi hN2 hI.1 (iv_3 hI) nx))
  · exact q_tabIn o_L_law_40 (by decide) (by decide) rfl (tgt := 378) rfl (l_more (b := k) (sb := 6 * k) (by omega) (by omega) (vl_4 Inv hi hN2 hI.1 (iv_4 hI) nx))
  · exact q_tabIn o_L_law_40 (by decide) (by decide) rfl (tgt := 415) rfl (l_more (b := k) (sb := 6 * k) (by omega) (by omega) (vl_5 Inv hi hN2 hI.1 (iv_5 hI) nx))
  · exact q_tabIn o_L_law_40 (by decide) (by decide) rfl (tgt := 452) rfl (l_more (b := 1 + k) (sb := 6 + 6 * k) (by omega) (by omega) (vl_6 Inv hi hN2 hI.1 (iv_6 hst hI) nx))
  · exact q_tabIn o_L_law_40 (by decide) (by decide) rfl (tgt := 508) rfl (l_more (b := k) (sb := 6 * k) (by omega) (by omega) (vl_7 Inv hi hN2 hI.1 (iv_7 hI) nx))
  · exact q_tabIn o_L_law_40 (by decide) (by decide) rfl (tgt := 545) rfl (l_more (b := k) (sb := 6 * k) (by omega) (by omega) (vl_8 Inv hi hN2 hI.1 (iv_8 hI) nx))
  · exact q_tabIn o_L_law_40 (by decide) (by decide) rfl (tgt := 570) rfl (l_more (b := k) (sb := 6 * k) (by omega) (by omega) (vl_9 Inv hi hN2 hI.1 (iv_9 hI) nx))
  · exact q_tabIn o_L_law_40 (by decide) (by decide) rfl (tgt := 607) rfl (l_more (b := k) (sb := 6 * k) (by omega) (by omega) (vl_10 Inv hi hN2 hI.1 (iv_10 hI) nx))
  · exact q_tabIn o_L_law_40 (by decide) (by decide) rfl (tgt := 656) rfl (l_more (b := k) (sb := 6 * k) (by omega) (by omega) (vl_11 Inv hi hN2 hI.1 (iv_11 hI) nx))
  · exact q_tabIn o_L_law_40 (by decide) (by decide) rfl (tgt := 705) rfl (l_more (b := k) (sb := 6 * k) (by omega) (by omega) (vl_12 Inv hi hN2 hI.1 (iv_12 hI) nx))
  · exact q_tabIn o_L_law_40 (by decide) (by decide) rfl (tgt := 718) rfl (l_more (b := k) (sb := 6 * k) (by omega) (by omega) (vl_13 Inv hi hN2 hI.1 (iv_13 hI) nx))
  · exact q_tabIn o_L_law_40 (by decide) (by decide) rfl (tgt := 743) rfl (l_more (b := k) (sb := 6 * k) (by omega) (by omega) (vl_14 Inv hi hN2 hI.1 (iv_14 hI) nx))
  · exact q_tabIn o_L_law_40 (by decide) (by decide) rfl (tgt := 756) rfl (l_more (b := k) (sb := 6 * k) (by omega) (by omega) (vl_15 Inv hi hN2 hI.1 (iv_15 hI) nx))
  · exact q_tabIn o_L_law_40 (by decide) (by decide) rfl (tgt := 793) rfl (l_more (b := k) (sb := 6 * k) (by omega) (by omega) (vl_16 Inv hi hN2 hI.1 (iv_16 hI) nx))
  · exact q_tabIn o_L_law_40 (by decide) (by decide) rfl (tgt := 830) rfl (l_more (b := 1 + k) (sb := 6 + 6 * k) (by omega) (by omega) (vl_17 Inv hi hN2 hI.1 (iv_17 hst hI) nx))
  · exact q_tabIn o_L_law_40 (by decide) (by decide) rfl (tgt := 886) rfl (l_more (b := k) (sb := 6 * k) (by omega) (by omega) (vl_18 Inv hi hN2 hI.1 (iv_18 hI) nx))
  · exact q_tabIn o_L_law_40 (by decide) (by decide) rfl (tgt := 911) rfl (l_more (b := k) (sb := 6 * k) (by omega) (by omega) (vl_19 Inv hi hN2 hI.1 (iv_19 hI) nx))
  · exact q_tabIn o_L_law_40 (by decide) (by decide) rfl (tgt := 936) rfl (l_more (b := k) (sb := 6 * k) (by omega) (by omega) (vl_20 Inv hi hN2 hI.1 (iv_20 hI) nx))
  · exact q_tabIn o_L_law_40 (by decide) (by decide) rfl (tgt := 961) rfl (l_more (b := 1 + k) (sb := 6 + 6 * k) (by omega) (by omega) (vl_21 Inv hi hN2 hI.1 (iv_21 hst hI) nx))
  · exact q_tabIn o_L_law_40 (by decide) (by decide) rfl (tgt := 1041) rfl (l_more (b := k) (sb := 6 * k) (by omega) (by omega) (vl_22 Inv hi hN2 hI.1 (iv_22 hI) nx))
  · exact q_tabIn o_L_law_40 (by decide) (by decide) rfl (tgt := 1106) rfl (l_more (b := k) (sb := 6 * k) (by omega) (by omega) (vl_23 Inv hi hN2 hI.1 (iv_23 hI) nx))
  · exact q_tabIn o_L_law_40 (by decide) (by decide) rfl (tgt := 1119) rfl (l_more (b := k) (sb := 6 * k) (by omega) (by omega) (vl_24 Inv hi hN2 hI.1 (iv_24 hI) nx))
  · exact q_tabIn o_L_law_40 (by decide) (by decide) rfl (tgt := 1156) rfl (l_more (b := k) (sb := 6 * k) (by omega) (by omega) (vl_25 Inv hi hN2 hI.1 (iv_25 hI) nx))
  · exact q_tabIn o_L_law_40 (by decide) (by decide) rfl (tgt := 1169) rfl (l_more (b := 1 + k) (sb := 6 + 6 * k) (by omega) (by omega) (vl_26 Inv hi hN2 hI.1 (iv_26 hst hI) nx))
  · exact q_tabIn o_L_law_40 (by decide) (by decide) rfl (tgt := 1225) rfl (l_more (b := k) (sb := 6 * k) (by omega) (by omega) (vl_27 Inv hi hN2 hI.1 (iv_27 hI) nx))
  · exact q_tabIn o_L_law_40 (by decide) (by decide) rfl (tgt := 1286) rfl (l_more (b := k) (sb := 6 * k) (by omega) (by omega) (vl_28 Inv hi hN2 hI.1 (iv_28 hI) nx))
  · exact q_tabIn o_L_law_40 (by decide) (by decide) rfl (tgt := 1335) rfl (l_more (b := k) (sb := 6 * k) (by omega) (by omega) (vl_29 Inv hi hN2 hI.1 (iv_29 hI) nx))
  · exact q_tabIn o_L_law_40 (by decide) (by decide) rfl (tgt := 1388) rfl (l_more (b := k) (sb := 6 * k) (by omega) (by omega) (vl_30 Inv hi hN2 hI.1 (iv_30 hI) nx))
  · exact q_tabOut o_L_law_40 (by decide) (tgt := 1413) rfl (l_more (b := k) (sb := 6 * k) (by omega) (by omega) (next σ hI))
theorem law_loop (hst : (g_l G).stackTraces = false) (hN : g_L G ≤ 3584) (hQ : ∀ σ', Q (some (.int 1)) σ') : ∀ k i σ, g_L G < i + 7 * k + 7 → i ≤ 3600 → Inv σ → q_At G X_L_law (d + 51) k (6 * k) 23 [some (.ref 1000), some (.ref 0), some (.ref 159), some (.ref 182), some (.int (nI i)), none, none] [] σ Q := by
  intro k
  induction k with
  | zero =>
    intro i σ h1 h2 hI
    refine q_iload o_L_law_23 rfl ?_
    refine q_aload_n o_L_law_25 rfl ?_
    refine q_slen o_L_law_26 ?_
    refine q_bipush (v := 7) o_L_law_27 (by decide) ?_
    refine q_isub o_L_law_29 ?_
    refine q_icmp_gt o_L_law_30 (fun _ => ?_) (fun c => ?_)
    · refine q_iconst (v := 1) o_L_law_1419 (by decide) ?_
      exact q_ret (r := some (.int 1)) ⟨o_L_law_1420.1, .boolean, rfl, rfl⟩ rfl (hQ σ)
    · have := lenI hN (by omega) c
      omega
  | succ k ih =>
    intro i σ h1 h2 hI
    refine q_iload o_L_law_23 rfl ?_
    refine q_aload_n o_L_law_25 rfl ?_
    refine q_slen o_L_law_26 ?_
    refine q_bipush (v := 7) o_L_law_27 (by decide) ?_
    refine q_isub o_L_law_29 ?_
    refine q_icmp_gt o_L_law_30 (fun _ => ?_) (fun c => ?_)
    · refine q_iconst (v := 1) o_L_law_1419 (by decide) ?_
      exact q_ret (r := some (.int 1)) ⟨o_L_law_1420.1, .boolean, rfl, rfl⟩ rfl (hQ σ)
    · have hi := lenI hN (by omega) c
      refine q_aload_n o_L_law_33 rfl ?_
      refine q_iload o_L_law_34 rfl ?_
      refine q_sld (i := i) o_L_law_36 rfl (by omega) (by omega) ?_
      refine q_bipush (v := 31) o_L_law_37 (by decide) ?_
      refine q_iand o_L_law_39 ?_
      refine law_case hst hi hN hI (fun σ2 h => ?_)
      refine n_inc (v := nI (i + 7)) (ls' := [some (.ref 1000), some (.ref 0), some (.ref 159), some (.ref 182), some (.int (nI (i + 7))), none, none]) o_L_law_1413 rfl (nI_add i 7) (Nat.le_of_ble_eq_true rfl) rfl ?_
      refine q_goto o_L_law_1416 ?_
      exact ih (i + 7) σ2 (by omega) (by omega) h
theorem cn_L_8 : q_CN "WallLotteryLaw" 8 10 18 := ⟨q_N10, q_T10, q_Y10, rfl, q_Tw10, q_Ty10, by decide +kernel, by decide +kernel, by decide +kernel, by decide +kernel⟩
theorem cn_L_26 : q_CN "WallLotteryLaw" 26 11 37 := ⟨q_N11, q_T11, q_Y11, rfl, q_Tw11, q_Ty11, by decide +kernel, by decide +kernel, by decide +kernel, by decide +kernel⟩
def q_00 : q_S := (0, fun _ _ => 0, fun _ _ => 0, fun _ _ => none)
theorem law_all (hst : (g_l G).stackTraces = false) (hN : g_L G ≤ 3584) (hQ : ∀ σ', Q (some (.int 1)) σ') : q_At G X_L_law (d + 51) 695 28562 0 [some (.ref 1000), none, none, none, none, none, none] [] q_00 Q := by
  have hB0 : Bn 0 [] [] q_00 := ⟨rfl, fun a i h => absurd h (Nat.not_lt_zero a), fun a i h => absurd h (Nat.not_lt_zero a), fun x hx => absurd hx List.not_mem_nil⟩
  refine n_newO (b := 694) (sb := 28544) (N := 18) (n := 0) hB0 o_L_law_0 cn_L_8 rfl (Or.inr rfl) (fun σ1 hB1 => ?_)
  refine q_dup o_L_law_3 rfl ?_
  refine n_callI (d := d + 50) (b := 536) (sb := 19933) (b1 := 158) (sb1 := 8611) (n := 1) (n' := 159) (a := 0) (As := []) (st := [.ref 0]) hB1 o_L_law_4 k_L_25 rfl (Nat.le_of_ble_eq_true rfl) (W_init_ok (d := d + 47) hB1) rfl (fun σ2 hB2 => ?_)
  refine l_astn (ls' := [some (.ref 1000), some (.ref 0), none, none, none, none, none]) o_L_law_7 (Nat.le_of_ble_eq_true rfl) rfl ?_
  refine n_newO (b := 535) (sb := 19896) (N := 37) (n := 159) hB2 o_L_law_8 cn_L_26 rfl (Or.inr rfl) (fun σ3 hB3 => ?_)
  refine q_dup o_L_law_11 rfl ?_
  refine q_callI (d := d + 50) (b := 513) (sb := 3073) (b1 := 22) (sb1 := 16823) (a := 159) (As := []) (st := [.ref 159]) o_L_law_12 k_L_28 rfl (Nat.le_of_ble_eq_true rfl) (M_init_ok (d := d + 46) hB3) (fun r σ4 hr => ?_)
  obtain ⟨rfl, h4⟩ := hr
  refine ⟨q_no_v, fun _ => by rw [hB3.1, h4.1.1]; decide, ?_⟩
  refine l_astn (ls' := [some (.ref 1000), some (.ref 0), some (.ref 159), none, none, none, none]) o_L_law_15 (Nat.le_of_ble_eq_true rfl) rfl ?_
  refine q_iconst (v := 1) o_L_law_16 (by decide) ?_
  have hn := h4.1.1
  refine q_newL (b := 512) (sb := 3072) (N := 1) o_L_law_17 (by rw [hn]; exact kd_182) rfl (by decide) ?_
  rw [hn]
  refine l_astn (ls' := [some (.ref 1000), some (.ref 0), some (.ref 159), some (.ref 182), none, none, none]) o_L_law_19 (Nat.le_of_ble_eq_true rfl) rfl ?_
  refine q_iconst (v := 0) o_L_law_20 (by decide) ?_
  refine l_ist (ls' := [some (.ref 1000), some (.ref 0), some (.ref 159), some (.ref 182), some (.int (nI 0)), none, none]) o_L_law_21 (Nat.le_of_ble_eq_true rfl) rfl ?_
  exact law_loop hst hN hQ 512 0 _ (by omega) (by omega) (Inv_0 h4)
end LAW
