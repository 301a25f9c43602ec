set_option maxRecDepth 20000 in
theorem v_M_families_0 {G : q_G} {d : Nat} {σ : q_S} {Q : Option Value → q_S → Prop}   (hs : q_Sh σ) (h : Q (some (.int (q_I σ 165 1))) σ) : q_At G X_M_families d 0 0 0 [some (.ref 159)] [] σ Q := by
  refine q_aload_n o_M_families_0 rfl ?_
  refine q2_getR hs o_M_families_1 f_M_103 rfl (fz_159_10 hs) ?_
  refine q_iconst (v := 1) o_M_families_4 (by decide) ?_
  refine q2_iald (i := 1) hs o_M_families_5 rfl rfl (by decide) (by decide) ?_
  exact q_ire o_M_families_6 rfl h

set_option maxRecDepth 20000 in
theorem v_M_houses_0 {G : q_G} {d : Nat} {σ : q_S} {Q : Option Value → q_S → Prop}   (hs : q_Sh σ) (h : Q (some (.int (q_I σ 165 0))) σ) : q_At G X_M_houses d 0 0 0 [some (.ref 159)] [] σ Q := by
  refine q_aload_n o_M_houses_0 rfl ?_
  refine q2_getR hs o_M_houses_1 f_M_103 rfl (fz_159_10 hs) ?_
  refine q_iconst (v := 0) o_M_houses_4 (by decide) ?_
  refine q2_iald (i := 0) hs o_M_houses_5 rfl rfl (by decide) (by decide) ?_
  exact q_ire o_M_houses_6 rfl h

theorem q2_M_families {G : q_G} {X : q_M} {d pc nx idx : Nat} {ls : List (Option Value)} {st : List Value} {σ : q_S} {Q : Option Value → q_S → Prop} (hs : q_Sh σ) (hd : q_D X pc (.invokevirtual idx) 3 nx) (hC : q_CV (m_y X).cls idx X_M_families 0 11) (hst : q_cats st ≤ 8) (kk : q_At G X (d + 1) 0 0 nx ls (.int (q_I σ 165 1) :: st) σ Q) : q_At G X (d + 1) 0 0 pc ls (.ref 159 :: st) σ Q :=
  q2_callVi (fun v σ1 => v = q_I σ 165 1 ∧ σ1 = σ) (a := 159) (As := []) hs hd hC rfl rfl hst (q_ci (by decide +kernel) (Nat.le_of_ble_eq_true rfl) (fun Q hq => v_M_families_0 hs hq) ⟨hs, _, rfl, rfl, rfl⟩) (fun v σ1 _ h => by obtain ⟨rfl, rfl⟩ := h; exact kk)

theorem q2_M_houses {G : q_G} {X : q_M} {d pc nx idx : Nat} {ls : List (Option Value)} {st : List Value} {σ : q_S} {Q : Option Value → q_S → Prop} (hs : q_Sh σ) (hd : q_D X pc (.invokevirtual idx) 3 nx) (hC : q_CV (m_y X).cls idx X_M_houses 0 11) (hst : q_cats st ≤ 8) (kk : q_At G X (d + 1) 0 0 nx ls (.int (q_I σ 165 0) :: st) σ Q) : q_At G X (d + 1) 0 0 pc ls (.ref 159 :: st) σ Q :=
  q2_callVi (fun v σ1 => v = q_I σ 165 0 ∧ σ1 = σ) (a := 159) (As := []) hs hd hC rfl rfl hst (q_ci (by decide +kernel) (Nat.le_of_ble_eq_true rfl) (fun Q hq => v_M_houses_0 hs hq) ⟨hs, _, rfl, rfl, rfl⟩) (fun v σ1 _ h => by obtain ⟨rfl, rfl⟩ := h; exact kk)
