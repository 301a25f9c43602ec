theorem dj_cons {a j : Nat} {y : Nat × Nat × Nat} {fs : List (Nat × Nat × Nat)} (h1 : y.1 ≠ a ∨ y.2.1 ≠ j) (h2 : ∀ x ∈ fs, x.1 ≠ a ∨ x.2.1 ≠ j) : ∀ x ∈ y :: fs, x.1 ≠ a ∨ x.2.1 ≠ j := fun x hx => by
  rcases List.mem_cons.mp hx with rfl | hx
  · exact h1
  · exact h2 x hx
theorem dj_lt {a j : Nat} {fs : List (Nat × Nat × Nat)} (h : ∀ x ∈ fs, x.1 < a) : ∀ x ∈ fs, x.1 ≠ a ∨ x.2.1 ≠ j := fun x hx => Or.inl (Nat.ne_of_lt (h x hx))
theorem lt_cons {n : Nat} {y : Nat × Nat × Nat} {fs : List (Nat × Nat × Nat)} (h1 : y.1 < n) (h2 : ∀ x ∈ fs, x.1 < n) : ∀ x ∈ y :: fs, x.1 < n := fun x hx => by
  rcases List.mem_cons.mp hx with rfl | hx
  · exact h1
  · exact h2 x hx
theorem lt_lt {a k : Nat} {fs : List (Nat × Nat × Nat)} (h : ∀ x ∈ fs, x.1 < a) : ∀ x ∈ fs, x.1 < a + k := fun x hx => Nat.lt_of_lt_of_le (h x hx) (Nat.le_add_right _ _)
theorem cn_Tw_49 : q_CN "WallLottery$Town" 49 2 7 := ⟨q_N2, q_T2, q_Y2, rfl, q_Tw2, q_Ty2, by decide +kernel, by decide +kernel, by decide +kernel, by decide +kernel⟩
theorem Dy_init_ok {G : q_G} {d a : Nat} {σ : q_S} {fs : List (Nat × Nat × Nat)} (hB0 : Bn (a + 1) fs [] σ) (hfs : ∀ x ∈ fs, x.1 < a) (k0 : q_kd (a) = (0, 0)) (k1 : q_kd (a + 1) = (1, 24)) (k2 : q_kd (a + 2) = (1, 24)) (k3 : q_kd (a + 3) = (1, 24)) (k4 : q_kd (a + 4) = (1, 24)) : q_Call G (d + 1) 4 96 X_Dy_init [.ref a] σ (fun r σ' => r = none ∧ Bn (a + 5) ((a, 3, a + 4) :: (a, 2, a + 3) :: (a, 1, a + 2) :: (a, 0, a + 1) :: fs) [] σ') := by
  refine q_enter (by decide +kernel) (Nat.le_of_ble_eq_true rfl) ?_
  refine q_aload_n o_Dy_init_0 rfl ?_
  refine q_obj o_Dy_init_1 (by decide +kernel) (Nat.le_of_ble_eq_true rfl) ?_
  refine q_aload_n o_Dy_init_4 rfl ?_
  refine q_bipush (v := 24) o_Dy_init_5 (by decide) ?_
  refine n_newI (b := 3) (sb := 72) (N := 24) hB0 o_Dy_init_7 k1 rfl (by decide) (Or.inr rfl) (fun σ1 hB1 => ?_)
  refine n_putR hB1 o_Dy_init_9 fp_Dy_9 (fun h => by first | rfl | cases h) k0 (by omega) (fun _ => rfl) (fun _ => rfl) (dj_lt hfs) (fun σ2 hB2 => ?_)
  refine q_aload_n o_Dy_init_12 rfl ?_
  refine q_bipush (v := 24) o_Dy_init_13 (by decide) ?_
  refine n_newI (b := 2) (sb := 48) (N := 24) hB2 o_Dy_init_15 k2 rfl (by decide) (Or.inr rfl) (fun σ3 hB3 => ?_)
  refine n_putR hB3 o_Dy_init_17 fp_Dy_15 (fun h => by first | rfl | cases h) k0 (by omega) (fun _ => rfl) (fun _ => rfl) (dj_cons (Or.inr (show (0 : Nat) ≠ 1 by decide)) (dj_lt hfs)) (fun σ4 hB4 => ?_)
  refine q_aload_n o_Dy_init_20 rfl ?_
  refine q_bipush (v := 24) o_Dy_init_21 (by decide) ?_
  refine n_newI (b := 1) (sb := 24) (N := 24) hB4 o_Dy_init_23 k3 rfl (by decide) (Or.inr rfl) (fun σ5 hB5 => ?_)
  refine n_putR hB5 o_Dy_init_25 fp_Dy_18 (fun h => by first | rfl | cases h) k0 (by omega) (fun _ => rfl) (fun _ => rfl) (dj_cons (Or.inr (show (1 : Nat) ≠ 2 by decide)) (dj_cons (Or.inr (show (0 : Nat) ≠ 2 by decide)) (dj_lt hfs))) (fun σ6 hB6 => ?_)
  refine q_aload_n o_Dy_init_28 rfl ?_
  refine q_bipush (v := 24) o_Dy_init_29 (by decide) ?_
  refine n_newI (b := 0) (sb := 0) (N := 24) hB6 o_Dy_init_31 k4 rfl (by decide) (Or.inr rfl) (fun σ7 hB7 => ?_)
  refine n_putR hB7 o_Dy_init_33 fp_Dy_21 (fun h => by first | rfl | cases h) k0 (by omega) (fun _ => rfl) (fun _ => rfl) (dj_cons (Or.inr (show (2 : Nat) ≠ 3 by decide)) (dj_cons (Or.inr (show (1 : Nat) ≠ 3 by decide)) (dj_cons (Or.inr (show (0 : Nat) ≠ 3 by decide)) (dj_lt hfs)))) (fun σ8 hB8 => ?_)
  exact q_vre o_Dy_init_36 rfl ⟨fun i e => (by cases e), rfl, hB8⟩
theorem Di_init_ok {G : q_G} {d a : Nat} {σ : q_S} {fs : List (Nat × Nat × Nat)} (hB0 : Bn (a + 1) fs [] σ) (hfs : ∀ x ∈ fs, x.1 < a) (k0 : q_kd (a) = (0, 1)) (k1 : q_kd (a + 1) = (1, 6)) : q_Call G (d + 1) 1 6 X_Di_init [.ref a] σ (fun r σ' => r = none ∧ Bn (a + 2) ((a, 0, a + 1) :: fs) [] σ') := by
  refine q_enter (by decide +kernel) (Nat.le_of_ble_eq_true rfl) ?_
  refine q_aload_n o_Di_init_0 rfl ?_
  refine q_obj o_Di_init_1 (by decide +kernel) (Nat.le_of_ble_eq_true rfl) ?_
  refine q_aload_n o_Di_init_4 rfl ?_
  refine q_bipush (v := 6) o_Di_init_5 (by decide) ?_
  refine n_newI (b := 0) (sb := 0) (N := 6) hB0 o_Di_init_7 k1 rfl (by decide) (Or.inr rfl) (fun σ1 hB1 => ?_)
  refine n_putR hB1 o_Di_init_9 fp_Di_9 (fun h => by first | rfl | cases h) k0 (by omega) (fun _ => rfl) (fun _ => rfl) (dj_lt hfs) (fun σ2 hB2 => ?_)
  exact q_vre o_Di_init_12 rfl ⟨fun i e => (by cases e), rfl, hB2⟩
theorem La_init_ok {G : q_G} {d a : Nat} {σ : q_S} {fs : List (Nat × Nat × Nat)} (hB0 : Bn (a + 1) fs [] σ) (hfs : ∀ x ∈ fs, x.1 < a) (k0 : q_kd (a) = (0, 2)) (k1 : q_kd (a + 1) = (1, 1024)) (k2 : q_kd (a + 2) = (1, 3)) (k3 : q_kd (a + 3) = (1, 3)) (k4 : q_kd (a + 4) = (3, 3)) (k5 : q_kd (a + 5) = (1, 32)) : q_Call G (d + 1) 5 1065 X_La_init [.ref a] σ (fun r σ' => r = none ∧ Bn (a + 6) ((a, 4, a + 5) :: (a, 3, a + 4) :: (a, 2, a + 3) :: (a, 1, a + 2) :: (a, 0, a + 1) :: fs) [] σ') := by
  refine q_enter (by decide +kernel) (Nat.le_of_ble_eq_true rfl) ?_
  refine q_aload_n o_La_init_0 rfl ?_
  refine q_obj o_La_init_1 (by decide +kernel) (Nat.le_of_ble_eq_true rfl) ?_
  refine q_aload_n o_La_init_4 rfl ?_
  refine q_sipush (v := 1024) o_La_init_5 (by decide) ?_
  refine n_newI (b := 4) (sb := 41) (N := 1024) hB0 o_La_init_8 k1 rfl (by decide) (Or.inr rfl) (fun σ1 hB1 => ?_)
  refine n_putR hB1 o_La_init_10 fp_La_11 (fun h => by first | rfl | cases h) k0 (by omega) (fun _ => rfl) (fun _ => rfl) (dj_lt hfs) (fun σ2 hB2 => ?_)
  refine q_aload_n o_La_init_13 rfl ?_
  refine q_iconst (v := 3) o_La_init_14 (by decide) ?_
  refine n_newI (b := 3) (sb := 38) (N := 3) hB2 o_La_init_15 k2 rfl (by decide) (Or.inr rfl) (fun σ3 hB3 => ?_)
  refine n_putR hB3 o_La_init_17 fp_La_15 (fun h => by first | rfl | cases h) k0 (by omega) (fun _ => rfl) (fun _ => rfl) (dj_cons (Or.inr (show (0 : Nat) ≠ 1 by decide)) (dj_lt hfs)) (fun σ4 hB4 => ?_)
  refine q_aload_n o_La_init_20 rfl ?_
  refine q_iconst (v := 3) o_La_init_21 (by decide) ?_
  refine n_newI (b := 2) (sb := 35) (N := 3) hB4 o_La_init_22 k3 rfl (by decide) (Or.inr rfl) (fun σ5 hB5 => ?_)
  refine n_putR hB5 o_La_init_24 fp_La_18 (fun h => by first | rfl | cases h) k0 (by omega) (fun _ => rfl) (fun _ => rfl) (dj_cons (Or.inr (show (1 : Nat) ≠ 2 by decide)) (dj_cons (Or.inr (show (0 : Nat) ≠ 2 by decide)) (dj_lt hfs))) (fun σ6 hB6 => ?_)
  refine q_aload_n o_La_init_27 rfl ?_
  refine q_iconst (v := 3) o_La_init_28 (by decide) ?_
  refine n_newB (b := 1) (sb := 32) (N := 3) hB6 o_La_init_29 k4 rfl (by decide) (Or.inr rfl) (fun σ7 hB7 => ?_)
  refine n_putR hB7 o_La_init_31 fp_La_21 (fun h => by first | rfl | cases h) k0 (by omega) (fun _ => rfl) (fun _ => rfl) (dj_cons (Or.inr (show (2 : Nat) ≠ 3 by decide)) (dj_cons (Or.inr (show (1 : Nat) ≠ 3 by decide)) (dj_cons (Or.inr (show (0 : Nat) ≠ 3 by decide)) (dj_lt hfs)))) (fun σ8 hB8 => ?_)
  refine q_aload_n o_La_init_34 rfl ?_
  refine q_bipush (v := 32) o_La_init_35 (by decide) ?_
  refine n_newI (b := 0) (sb := 0) (N := 32) hB8 o_La_init_37 k5 rfl (by decide) (Or.inr rfl) (fun σ9 hB9 => ?_)
  refine n_putR hB9 o_La_init_39 fp_La_25 (fun h => by first | rfl | cases h) k0 (by omega) (fun _ => rfl) (fun _ => rfl) (dj_cons (Or.inr (show (3 : Nat) ≠ 4 by decide)) (dj_cons (Or.inr (show (2 : Nat) ≠ 4 by decide)) (dj_cons (Or.inr (show (1 : Nat) ≠ 4 by decide)) (dj_cons (Or.inr (show (0 : Nat) ≠ 4 by decide)) (dj_lt hfs))))) (fun σ10 hB10 => ?_)
  exact q_vre o_La_init_42 rfl ⟨fun i e => (by cases e), rfl, hB10⟩
theorem Li_init_ok {G : q_G} {d a : Nat} {σ : q_S} {fs : List (Nat × Nat × Nat)} (hB0 : Bn (a + 1) fs [] σ) (hfs : ∀ x ∈ fs, x.1 < a) (k0 : q_kd (a) = (0, 3)) (k1 : q_kd (a + 1) = (1, 6)) (k2 : q_kd (a + 2) = (1, 6)) (k3 : q_kd (a + 3) = (1, 36)) : q_Call G (d + 1) 3 48 X_Li_init [.ref a] σ (fun r σ' => r = none ∧ Bn (a + 4) ((a, 2, a + 3) :: (a, 1, a + 2) :: (a, 0, a + 1) :: fs) [] σ') := by
  refine q_enter (by decide +kernel) (Nat.le_of_ble_eq_true rfl) ?_
  refine q_aload_n o_Li_init_0 rfl ?_
  refine q_obj o_Li_init_1 (by decide +kernel) (Nat.le_of_ble_eq_true rfl) ?_
  refine q_aload_n o_Li_init_4 rfl ?_
  refine q_bipush (v := 6) o_Li_init_5 (by decide) ?_
  refine n_newI (b := 2) (sb := 42) (N := 6) hB0 o_Li_init_7 k1 rfl (by decide) (Or.inr rfl) (fun σ1 hB1 => ?_)
  refine n_putR hB1 o_Li_init_9 fp_Li_9 (fun h => by first | rfl | cases h) k0 (by omega) (fun _ => rfl) (fun _ => rfl) (dj_lt hfs) (fun σ2 hB2 => ?_)
  refine q_aload_n o_Li_init_12 rfl ?_
  refine q_bipush (v := 6) o_Li_init_13 (by decide) ?_
  refine n_newI (b := 1) (sb := 36) (N := 6) hB2 o_Li_init_15 k2 rfl (by decide) (Or.inr rfl) (fun σ3 hB3 => ?_)
  refine n_putR hB3 o_Li_init_17 fp_Li_15 (fun h => by first | rfl | cases h) k0 (by omega) (fun _ => rfl) (fun _ => rfl) (dj_cons (Or.inr (show (0 : Nat) ≠ 1 by decide)) (dj_lt hfs)) (fun σ4 hB4 => ?_)
  refine q_aload_n o_Li_init_20 rfl ?_
  refine q_bipush (v := 36) o_Li_init_21 (by decide) ?_
  refine n_newI (b := 0) (sb := 0) (N := 36) hB4 o_Li_init_23 k3 rfl (by decide) (Or.inr rfl) (fun σ5 hB5 => ?_)
  refine n_putR hB5 o_Li_init_25 fp_Li_18 (fun h => by first | rfl | cases h) k0 (by omega) (fun _ => rfl) (fun _ => rfl) (dj_cons (Or.inr (show (1 : Nat) ≠ 2 by decide)) (dj_cons (Or.inr (show (0 : Nat) ≠ 2 by decide)) (dj_lt hfs))) (fun σ6 hB6 => ?_)
  exact q_vre o_Li_init_28 rfl ⟨fun i e => (by cases e), rfl, hB6⟩
theorem Rd_init_ok {G : q_G} {d a t : Nat} {σ : q_S} {fs : List (Nat × Nat × Nat)} (hB0 : Bn (a + 1) fs [] σ) (hfs : ∀ x ∈ fs, x.1 < a) (k0 : q_kd (a) = (0, 4)) : q_Call G (d + 1) 0 0 X_Rd_init [.ref a, .ref t] σ (fun r σ' => r = none ∧ Bn (a + 1) ((a, 0, t) :: fs) [] σ') := by
  refine q_enter (by decide +kernel) (Nat.le_of_ble_eq_true rfl) ?_
  refine q_aload_n o_Rd_init_0 rfl ?_
  refine q_obj o_Rd_init_1 (by decide +kernel) (Nat.le_of_ble_eq_true rfl) ?_
  refine q_aload_n o_Rd_init_4 rfl ?_
  refine q_aload_n o_Rd_init_5 rfl ?_
  refine n_putR hB0 o_Rd_init_6 fp_Rd_9 (fun h => by first | rfl | cases h) k0 (by omega) (fun _ => rfl) (fun _ => rfl) (dj_lt hfs) (fun σ1 hB1 => ?_)
  exact q_vre o_Rd_init_9 rfl ⟨fun i e => (by cases e), rfl, hB1⟩
theorem Tl_init_ok {G : q_G} {d a : Nat} {σ : q_S} {fs : List (Nat × Nat × Nat)} (hB0 : Bn (a + 1) fs [] σ) (hfs : ∀ x ∈ fs, x.1 < a) (k0 : q_kd (a) = (0, 5)) : q_Call G (d + 1) 0 0 X_Tl_init [.ref a] σ (fun r σ' => r = none ∧ Bn (a + 1) (fs) [] σ') := by
  refine q_enter (by decide +kernel) (Nat.le_of_ble_eq_true rfl) ?_
  refine q_aload_n o_Tl_init_0 rfl ?_
  refine q_obj o_Tl_init_1 (by decide +kernel) (Nat.le_of_ble_eq_true rfl) ?_
  exact q_vre o_Tl_init_4 rfl ⟨fun i e => (by cases e), rfl, hB0⟩
theorem Tp_init_ok {G : q_G} {d a : Nat} {σ : q_S} {fs : List (Nat × Nat × Nat)} (hB0 : Bn (a + 1) fs [] σ) (hfs : ∀ x ∈ fs, x.1 < a) (k0 : q_kd (a) = (0, 6)) (k1 : q_kd (a + 1) = (4, 1000)) : q_Call G (d + 1) 1 1000 X_Tp_init [.ref a] σ (fun r σ' => r = none ∧ Bn (a + 2) ((a, 0, a + 1) :: fs) [] σ') := by
  refine q_enter (by decide +kernel) (Nat.le_of_ble_eq_true rfl) ?_
  refine q_aload_n o_Tp_init_0 rfl ?_
  refine q_obj o_Tp_init_1 (by decide +kernel) (Nat.le_of_ble_eq_true rfl) ?_
  refine q_aload_n o_Tp_init_4 rfl ?_
  refine q_sipush (v := 1000) o_Tp_init_5 (by decide) ?_
  refine n_newC (b := 0) (sb := 0) (N := 1000) hB0 o_Tp_init_8 k1 rfl (by decide) (Or.inr rfl) (fun σ1 hB1 => ?_)
  refine n_putR hB1 o_Tp_init_10 fp_Tp_9 (fun h => by first | rfl | cases h) k0 (by omega) (fun _ => rfl) (fun _ => rfl) (dj_lt hfs) (fun σ2 hB2 => ?_)
  exact q_vre o_Tp_init_13 rfl ⟨fun i e => (by cases e), rfl, hB2⟩
theorem Tk_init_ok {G : q_G} {d a t : Nat} {σ : q_S} {fs : List (Nat × Nat × Nat)} (hB0 : Bn (a + 1) fs [] σ) (hfs : ∀ x ∈ fs, x.1 < a) (k0 : q_kd (a) = (0, 7)) : q_Call G (d + 1) 0 0 X_Tk_init [.ref a, .ref t] σ (fun r σ' => r = none ∧ Bn (a + 1) ((a, 0, t) :: (a, 4, 1034) :: fs) [] σ') := by
  refine q_enter (by decide +kernel) (Nat.le_of_ble_eq_true rfl) ?_
  refine q_aload_n o_Tk_init_0 rfl ?_
  refine q_obj o_Tk_init_1 (by decide +kernel) (Nat.le_of_ble_eq_true rfl) ?_
  refine q_aload_n o_Tk_init_4 rfl ?_
  refine q_gets (w := .ref 1034) o_Tk_init_5 (.inl (by decide +kernel)) (fun U H h => (h.1 33 (by decide)).1) ?_
  refine n_putR hB0 o_Tk_init_8 fp_Tk_15 (fun h => by first | rfl | cases h) k0 (by omega) (fun _ => rfl) (fun _ => rfl) (dj_lt hfs) (fun σ1 hB1 => ?_)
  refine q_aload_n o_Tk_init_11 rfl ?_
  refine q_aload_n o_Tk_init_12 rfl ?_
  refine n_putR hB1 o_Tk_init_13 fp_Tk_20 (fun h => by first | rfl | cases h) k0 (by omega) (fun _ => rfl) (fun _ => rfl) (dj_cons (Or.inr (show (4 : Nat) ≠ 0 by decide)) (dj_lt hfs)) (fun σ2 hB2 => ?_)
  exact q_vre o_Tk_init_16 rfl ⟨fun i e => (by cases e), rfl, hB2⟩
theorem Tw_init_ok {G : q_G} {d a : Nat} {σ : q_S} {fs : List (Nat × Nat × Nat)} (hB0 : Bn (a + 1) fs [] σ) (hfs : ∀ x ∈ fs, x.1 < a) (k0 : q_kd (a) = (0, 8)) (k1 : q_kd (a + 1) = (2, 6)) (k2 : q_kd (a + 2) = (2, 6)) (k3 : q_kd (a + 3) = (1, 6)) (k4 : q_kd (a + 4) = (1, 6)) (k5 : q_kd (a + 5) = (1, 6)) (k6 : q_kd (a + 6) = (1, 6)) (k7 : q_kd (a + 7) = (1, 36)) (k8 : q_kd (a + 8) = (1, 36)) (k9 : q_kd (a + 9) = (1, 36)) (k10 : q_kd (a + 10) = (1, 36)) (k11 : q_kd (a + 11) = (2, 8)) (k12 : q_kd (a + 12) = (1, 360)) (k13 : q_kd (a + 13) = (0, 2)) (k14 : q_kd (a + 14) = (1, 1024)) (k15 : q_kd (a + 15) = (1, 3)) (k16 : q_kd (a + 16) = (1, 3)) (k17 : q_kd (a + 17) = (3, 3)) (k18 : q_kd (a + 18) = (1, 32)) : q_Call G (d + 2) 18 1620 X_Tw_init [.ref a] σ (fun r σ' => r = none ∧ Bn (a + 19) ((a, 12, a + 13) :: (a + 13, 4, a + 18) :: (a + 13, 3, a + 17) :: (a + 13, 2, a + 16) :: (a + 13, 1, a + 15) :: (a + 13, 0, a + 14) :: (a, 11, a + 12) :: (a, 10, a + 11) :: (a, 9, a + 10) :: (a, 8, a + 9) :: (a, 7, a + 8) :: (a, 6, a + 7) :: (a, 5, a + 6) :: (a, 4, a + 5) :: (a, 3, a + 4) :: (a, 2, a + 3) :: (a, 1, a + 2) :: (a, 0, a + 1) :: fs) [] σ') := by
  refine q_enter (by decide +kernel) (Nat.le_of_ble_eq_true rfl) ?_
  refine q_aload_n o_Tw_init_0 rfl ?_
  refine q_obj o_Tw_init_1 (by decide +kernel) (Nat.le_of_ble_eq_true rfl) ?_
  refine q_aload_n o_Tw_init_4 rfl ?_
  refine q_bipush (v := 6) o_Tw_init_5 (by decide) ?_
  refine n_newL (b := 17) (sb := 1614) (N := 6) hB0 o_Tw_init_7 k1 rfl (by decide) (Or.inr rfl) (fun σ1 hB1 => ?_)
  refine n_putR hB1 o_Tw_init_9 fp_Tw_9 (fun h => by first | rfl | cases h) k0 (by omega) (fun _ => rfl) (fun _ => rfl) (dj_lt hfs) (fun σ2 hB2 => ?_)
  refine q_aload_n o_Tw_init_12 rfl ?_
  refine q_bipush (v := 6) o_Tw_init_13 (by decide) ?_
  refine n_newL (b := 16) (sb := 1608) (N := 6) hB2 o_Tw_init_15 k2 rfl (by decide) (Or.inr rfl) (fun σ3 hB3 => ?_)
  refine n_putR hB3 o_Tw_init_17 fp_Tw_15 (fun h => by first | rfl | cases h) k0 (by omega) (fun _ => rfl) (fun _ => rfl) (dj_cons (Or.inr (show (0 : Nat) ≠ 1 by decide)) (dj_lt hfs)) (fun σ4 hB4 => ?_)
  refine q_aload_n o_Tw_init_20 rfl ?_
  refine q_bipush (v := 6) o_Tw_init_21 (by decide) ?_
  refine n_newI (b := 15) (sb := 1602) (N := 6) hB4 o_Tw_init_23 k3 rfl (by decide) (Or.inr rfl) (fun σ5 hB5 => ?_)
  refine n_putR hB5 o_Tw_init_25 fp_Tw_18 (fun h => by first | rfl | cases h) k0 (by omega) (fun _ => rfl) (fun _ => rfl) (dj_cons (Or.inr (show (1 : Nat) ≠ 2 by decide)) (dj_cons (Or.inr (show (0 : Nat) ≠ 2 by decide)) (dj_lt hfs))) (fun σ6 hB6 => ?_)
  refine q_aload_n o_Tw_init_28 rfl ?_
  refine q_bipush (v := 6) o_Tw_init_29 (by decide) ?_
  refine n_newI (b := 14) (sb := 1596) (N := 6) hB6 o_Tw_init_31 k4 rfl (by decide) (Or.inr rfl) (fun σ7 hB7 => ?_)
  refine n_putR hB7 o_Tw_init_33 fp_Tw_22 (fun h => by first | rfl | cases h) k0 (by omega) (fun _ => rfl) (fun _ => rfl) (dj_cons (Or.inr (show (2 : Nat) ≠ 3 by decide)) (dj_cons (Or.inr (show (1 : Nat) ≠ 3 by decide)) (dj_cons (Or.inr (show (0 : Nat) ≠ 3 by decide)) (dj_lt hfs)))) (fun σ8 hB8 => ?_)
  refine q_aload_n o_Tw_init_36 rfl ?_
  refine q_bipush (v := 6) o_Tw_init_37 (by decide) ?_
  refine n_newI (b := 13) (sb := 1590) (N := 6) hB8 o_Tw_init_39 k5 rfl (by decide) (Or.inr rfl) (fun σ9 hB9 => ?_)
  refine n_putR hB9 o_Tw_init_41 fp_Tw_25 (fun h => by first | rfl | cases h) k0 (by omega) (fun _ => rfl) (fun _ => rfl) (dj_cons (Or.inr (show (3 : Nat) ≠ 4 by decide)) (dj_cons (Or.inr (show (2 : Nat) ≠ 4 by decide)) (dj_cons (Or.inr (show (1 : Nat) ≠ 4 by decide)) (dj_cons (Or.inr (show (0 : Nat) ≠ 4 by decide)) (dj_lt hfs))))) (fun σ10 hB10 => ?_)
  refine q_aload_n o_Tw_init_44 rfl ?_
  refine q_bipush (v := 6) o_Tw_init_45 (by decide) ?_
  refine n_newI (b := 12) (sb := 1584) (N := 6) hB10 o_Tw_init_47 k6 rfl (by decide) (Or.inr rfl) (fun σ11 hB11 => ?_)
  refine n_putR hB11 o_Tw_init_49 fp_Tw_28 (fun h => by first | rfl | cases h) k0 (by omega) (fun _ => rfl) (fun _ => rfl) (dj_cons (Or.inr (show (4 : Nat) ≠ 5 by decide)) (dj_cons (Or.inr (show (3 : Nat) ≠ 5 by decide)) (dj_cons (Or.inr (show (2 : Nat) ≠ 5 by decide)) (dj_cons (Or.inr (show (1 : Nat) ≠ 5 by decide)) (dj_cons (Or.inr (show (0 : Nat) ≠ 5 by decide)) (dj_lt hfs)))))) (fun σ12 hB12 => ?_)
  refine q_aload_n o_Tw_init_52 rfl ?_
  refine q_bipush (v := 36) o_Tw_init_53 (by decide) ?_
  refine n_newI (b := 11) (sb := 1548) (N := 36) hB12 o_Tw_init_55 k7 rfl (by decide) (Or.inr rfl) (fun σ13 hB13 => ?_)
  refine n_putR hB13 o_Tw_init_57 fp_Tw_31 (fun h => by first | rfl | cases h) k0 (by omega) (fun _ => rfl) (fun _ => rfl) (dj_cons (Or.inr (show (5 : Nat) ≠ 6 by decide)) (dj_cons (Or.inr (show (4 : Nat) ≠ 6 by decide)) (dj_cons (Or.inr (show (3 : Nat) ≠ 6 by decide)) (dj_cons (Or.inr (show (2 : Nat) ≠ 6 by decide)) (dj_cons (Or.inr (show (1 : Nat) ≠ 6 by decide)) (dj_cons (Or.inr (show (0 : Nat) ≠ 6 by decide)) (dj_lt hfs))))))) (fun σ14 hB14 => ?_)
  refine q_aload_n o_Tw_init_60 rfl ?_
  refine q_bipush (v := 36) o_Tw_init_61 (by decide) ?_
  refine n_newI (b := 10) (sb := 1512) (N := 36) hB14 o_Tw_init_63 k8 rfl (by decide) (Or.inr rfl) (fun σ15 hB15 => ?_)
  refine n_putR hB15 o_Tw_init_65 fp_Tw_34 (fun h => by first | rfl | cases h) k0 (by omega) (fun _ => rfl) (fun _ => rfl) (dj_cons (Or.inr (show (6 : Nat) ≠ 7 by decide)) (dj_cons (Or.inr (show (5 : Nat) ≠ 7 by decide)) (dj_cons (Or.inr (show (4 : Nat) ≠ 7 by decide)) (dj_cons (Or.inr (show (3 : Nat) ≠ 7 by decide)) (dj_cons (Or.inr (show (2 : Nat) ≠ 7 by decide)) (dj_cons (Or.inr (show (1 : Nat) ≠ 7 by decide)) (dj_cons (Or.inr (show (0 : Nat) ≠ 7 by decide)) (dj_lt hfs)))))))) (fun σ16 hB16 => ?_)
  refine q_aload_n o_Tw_init_68 rfl ?_
  refine q_bipush (v := 36) o_Tw_init_69 (by decide) ?_
  refine n_newI (b := 9) (sb := 1476) (N := 36) hB16 o_Tw_init_71 k9 rfl (by decide) (Or.inr rfl) (fun σ17 hB17 => ?_)
  refine n_putR hB17 o_Tw_init_73 fp_Tw_37 (fun h => by first | rfl | cases h) k0 (by omega) (fun _ => rfl) (fun _ => rfl) (dj_cons (Or.inr (show (7 : Nat) ≠ 8 by decide)) (dj_cons (Or.inr (show (6 : Nat) ≠ 8 by decide)) (dj_cons (Or.inr (show (5 : Nat) ≠ 8 by decide)) (dj_cons (Or.inr (show (4 : Nat) ≠ 8 by decide)) (dj_cons (Or.inr (show (3 : Nat) ≠ 8 by decide)) (dj_cons (Or.inr (show (2 : Nat) ≠ 8 by decide)) (dj_cons (Or.inr (show (1 : Nat) ≠ 8 by decide)) (dj_cons (Or.inr (show (0 : Nat) ≠ 8 by decide)) (dj_lt hfs))))))))) (fun σ18 hB18 => ?_)
  refine q_aload_n o_Tw_init_76 rfl ?_
  refine q_bipush (v := 36) o_Tw_init_77 (by decide) ?_
  refine n_newI (b := 8) (sb := 1440) (N := 36) hB18 o_Tw_init_79 k10 rfl (by decide) (Or.inr rfl) (fun σ19 hB19 => ?_)
  refine n_putR hB19 o_Tw_init_81 fp_Tw_40 (fun h => by first | rfl | cases h) k0 (by omega) (fun _ => rfl) (fun _ => rfl) (dj_cons (Or.inr (show (8 : Nat) ≠ 9 by decide)) (dj_cons (Or.inr (show (7 : Nat) ≠ 9 by decide)) (dj_cons (Or.inr (show (6 : Nat) ≠ 9 by decide)) (dj_cons (Or.inr (show (5 : Nat) ≠ 9 by decide)) (dj_cons (Or.inr (show (4 : Nat) ≠ 9 by decide)) (dj_cons (Or.inr (show (3 : Nat) ≠ 9 by decide)) (dj_cons (Or.inr (show (2 : Nat) ≠ 9 by decide)) (dj_cons (Or.inr (show (1 : Nat) ≠ 9 by decide)) (dj_cons (Or.inr (show (0 : Nat) ≠ 9 by decide)) (dj_lt hfs)))))))))) (fun σ20 hB20 => ?_)
  refine q_aload_n o_Tw_init_84 rfl ?_
  refine q_bipush (v := 8) o_Tw_init_85 (by decide) ?_
  refine n_newL (b := 7) (sb := 1432) (N := 8) hB20 o_Tw_init_87 k11 rfl (by decide) (Or.inr rfl) (fun σ21 hB21 => ?_)
  refine n_putR hB21 o_Tw_init_89 fp_Tw_43 (fun h => by first | rfl | cases h) k0 (by omega) (fun _ => rfl) (fun _ => rfl) (dj_cons (Or.inr (show (9 : Nat) ≠ 10 by decide)) (dj_cons (Or.inr (show (8 : Nat) ≠ 10 by decide)) (dj_cons (Or.inr (show (7 : Nat) ≠ 10 by decide)) (dj_cons (Or.inr (show (6 : Nat) ≠ 10 by decide)) (dj_cons (Or.inr (show (5 : Nat) ≠ 10 by decide)) (dj_cons (Or.inr (show (4 : Nat) ≠ 10 by decide)) (dj_cons (Or.inr (show (3 : Nat) ≠ 10 by decide)) (dj_cons (Or.inr (show (2 : Nat) ≠ 10 by decide)) (dj_cons (Or.inr (show (1 : Nat) ≠ 10 by decide)) (dj_cons (Or.inr (show (0 : Nat) ≠ 10 by decide)) (dj_lt hfs))))))))))) (fun σ22 hB22 => ?_)
  refine q_aload_n o_Tw_init_92 rfl ?_
  refine q_sipush (v := 360) o_Tw_init_93 (by decide) ?_
  refine n_newI (b := 6) (sb := 1072) (N := 360) hB22 o_Tw_init_96 k12 rfl (by decide) (Or.inr rfl) (fun σ23 hB23 => ?_)
  refine n_putR hB23 o_Tw_init_98 fp_Tw_46 (fun h => by first | rfl | cases h) k0 (by omega) (fun _ => rfl) (fun _ => rfl) (dj_cons (Or.inr (show (10 : Nat) ≠ 11 by decide)) (dj_cons (Or.inr (show (9 : Nat) ≠ 11 by decide)) (dj_cons (Or.inr (show (8 : Nat) ≠ 11 by decide)) (dj_cons (Or.inr (show (7 : Nat) ≠ 11 by decide)) (dj_cons (Or.inr (show (6 : Nat) ≠ 11 by decide)) (dj_cons (Or.inr (show (5 : Nat) ≠ 11 by decide)) (dj_cons (Or.inr (show (4 : Nat) ≠ 11 by decide)) (dj_cons (Or.inr (show (3 : Nat) ≠ 11 by decide)) (dj_cons (Or.inr (show (2 : Nat) ≠ 11 by decide)) (dj_cons (Or.inr (show (1 : Nat) ≠ 11 by decide)) (dj_cons (Or.inr (show (0 : Nat) ≠ 11 by decide)) (dj_lt hfs)))))))))))) (fun σ24 hB24 => ?_)
  refine q_aload_n o_Tw_init_101 rfl ?_
  refine n_newO (b := 5) (sb := 1065) (N := 7) hB24 o_Tw_init_102 cn_Tw_49 k13 (Or.inr rfl) (fun σ25 hB25 => ?_)
  refine q_dup o_Tw_init_105 rfl ?_
  refine n_callI (b := 0) (sb := 0) (a := a + 13) (As := []) (st := [.ref (a + 13), .ref a]) hB25 o_Tw_init_106 k_Tw_51 rfl (Nat.le_of_ble_eq_true rfl) (La_init_ok (d := d) (a := a + 13) hB25 (lt_cons (by show _ < _; omega) (lt_cons (by show _ < _; omega) (lt_cons (by show _ < _; omega) (lt_cons (by show _ < _; omega) (lt_cons (by show _ < _; omega) (lt_cons (by show _ < _; omega) (lt_cons (by show _ < _; omega) (lt_cons (by show _ < _; omega) (lt_cons (by show _ < _; omega) (lt_cons (by show _ < _; omega) (lt_cons (by show _ < _; omega) (lt_cons (by show _ < _; omega) (lt_lt hfs))))))))))))) k13 k14 k15 k16 k17 k18) (by omega) (fun σ26 hB26 => ?_)
  refine n_putR hB26 o_Tw_init_109 fp_Tw_52 (fun h => by first | rfl | cases h) k0 (by omega) (fun _ => rfl) (fun _ => rfl) (dj_cons (Or.inl (Nat.ne_of_gt (Nat.lt_add_of_pos_right (by decide)))) (dj_cons (Or.inl (Nat.ne_of_gt (Nat.lt_add_of_pos_right (by decide)))) (dj_cons (Or.inl (Nat.ne_of_gt (Nat.lt_add_of_pos_right (by decide)))) (dj_cons (Or.inl (Nat.ne_of_gt (Nat.lt_add_of_pos_right (by decide)))) (dj_cons (Or.inl (Nat.ne_of_gt (Nat.lt_add_of_pos_right (by decide)))) (dj_cons (Or.inr (show (11 : Nat) ≠ 12 by decide)) (dj_cons (Or.inr (show (10 : Nat) ≠ 12 by decide)) (dj_cons (Or.inr (show (9 : Nat) ≠ 12 by decide)) (dj_cons (Or.inr (show (8 : Nat) ≠ 12 by decide)) (dj_cons (Or.inr (show (7 : Nat) ≠ 12 by decide)) (dj_cons (Or.inr (show (6 : Nat) ≠ 12 by decide)) (dj_cons (Or.inr (show (5 : Nat) ≠ 12 by decide)) (dj_cons (Or.inr (show (4 : Nat) ≠ 12 by decide)) (dj_cons (Or.inr (show (3 : Nat) ≠ 12 by decide)) (dj_cons (Or.inr (show (2 : Nat) ≠ 12 by decide)) (dj_cons (Or.inr (show (1 : Nat) ≠ 12 by decide)) (dj_cons (Or.inr (show (0 : Nat) ≠ 12 by decide)) (dj_lt hfs)))))))))))))))))) (fun σ27 hB27 => ?_)
  exact q_vre o_Tw_init_112 rfl ⟨fun i e => (by cases e), rfl, hB27⟩
theorem Wy_init_ok {G : q_G} {d a : Nat} {σ : q_S} {fs : List (Nat × Nat × Nat)} (hB0 : Bn (a + 1) fs [] σ) (hfs : ∀ x ∈ fs, x.1 < a) (k0 : q_kd (a) = (0, 9)) (k1 : q_kd (a + 1) = (1, 720)) (k2 : q_kd (a + 2) = (2, 720)) (k3 : q_kd (a + 3) = (2, 720)) (k4 : q_kd (a + 4) = (1, 720)) (k5 : q_kd (a + 5) = (1, 6)) (k6 : q_kd (a + 6) = (1, 6)) : q_Call G (d + 1) 6 2892 X_Wy_init [.ref a] σ (fun r σ' => r = none ∧ Bn (a + 7) ((a, 5, a + 6) :: (a, 4, a + 5) :: (a, 3, a + 4) :: (a, 2, a + 3) :: (a, 1, a + 2) :: (a, 0, a + 1) :: fs) [] σ') := by
  refine q_enter (by decide +kernel) (Nat.le_of_ble_eq_true rfl) ?_
  refine q_aload_n o_Wy_init_0 rfl ?_
  refine q_obj o_Wy_init_1 (by decide +kernel) (Nat.le_of_ble_eq_true rfl) ?_
  refine q_aload_n o_Wy_init_4 rfl ?_
  refine q_sipush (v := 720) o_Wy_init_5 (by decide) ?_
  refine n_newI (b := 5) (sb := 2172) (N := 720) hB0 o_Wy_init_8 k1 rfl (by decide) (Or.inr rfl) (fun σ1 hB1 => ?_)
  refine n_putR hB1 o_Wy_init_10 fp_Wy_9 (fun h => by first | rfl | cases h) k0 (by omega) (fun _ => rfl) (fun _ => rfl) (dj_lt hfs) (fun σ2 hB2 => ?_)
  refine q_aload_n o_Wy_init_13 rfl ?_
  refine q_sipush (v := 720) o_Wy_init_14 (by decide) ?_
  refine n_newL (b := 4) (sb := 1452) (N := 720) hB2 o_Wy_init_17 k2 rfl (by decide) (Or.inr rfl) (fun σ3 hB3 => ?_)
  refine n_putR hB3 o_Wy_init_19 fp_Wy_15 (fun h => by first | rfl | cases h) k0 (by omega) (fun _ => rfl) (fun _ => rfl) (dj_cons (Or.inr (show (0 : Nat) ≠ 1 by decide)) (dj_lt hfs)) (fun σ4 hB4 => ?_)
  refine q_aload_n o_Wy_init_22 rfl ?_
  refine q_sipush (v := 720) o_Wy_init_23 (by decide) ?_
  refine n_newL (b := 3) (sb := 732) (N := 720) hB4 o_Wy_init_26 k3 rfl (by decide) (Or.inr rfl) (fun σ5 hB5 => ?_)
  refine n_putR hB5 o_Wy_init_28 fp_Wy_19 (fun h => by first | rfl | cases h) k0 (by omega) (fun _ => rfl) (fun _ => rfl) (dj_cons (Or.inr (show (1 : Nat) ≠ 2 by decide)) (dj_cons (Or.inr (show (0 : Nat) ≠ 2 by decide)) (dj_lt hfs))) (fun σ6 hB6 => ?_)
  refine q_aload_n o_Wy_init_31 rfl ?_
  refine q_sipush (v := 720) o_Wy_init_32 (by decide) ?_
  refine n_newI (b := 2) (sb := 12) (N := 720) hB6 o_Wy_init_35 k4 rfl (by decide) (Or.inr rfl) (fun σ7 hB7 => ?_)
  refine n_putR hB7 o_Wy_init_37 fp_Wy_22 (fun h => by first | rfl | cases h) k0 (by omega) (fun _ => rfl) (fun _ => rfl) (dj_cons (Or.inr (show (2 : Nat) ≠ 3 by decide)) (dj_cons (Or.inr (show (1 : Nat) ≠ 3 by decide)) (dj_cons (Or.inr (show (0 : Nat) ≠ 3 by decide)) (dj_lt hfs)))) (fun σ8 hB8 => ?_)
  refine q_aload_n o_Wy_init_40 rfl ?_
  refine q_bipush (v := 6) o_Wy_init_41 (by decide) ?_
  refine n_newI (b := 1) (sb := 6) (N := 6) hB8 o_Wy_init_43 k5 rfl (by decide) (Or.inr rfl) (fun σ9 hB9 => ?_)
  refine n_putR hB9 o_Wy_init_45 fp_Wy_25 (fun h => by first | rfl | cases h) k0 (by omega) (fun _ => rfl) (fun _ => rfl) (dj_cons (Or.inr (show (3 : Nat) ≠ 4 by decide)) (dj_cons (Or.inr (show (2 : Nat) ≠ 4 by decide)) (dj_cons (Or.inr (show (1 : Nat) ≠ 4 by decide)) (dj_cons (Or.inr (show (0 : Nat) ≠ 4 by decide)) (dj_lt hfs))))) (fun σ10 hB10 => ?_)
  refine q_aload_n o_Wy_init_48 rfl ?_
  refine q_bipush (v := 6) o_Wy_init_49 (by decide) ?_
  refine n_newI (b := 0) (sb := 0) (N := 6) hB10 o_Wy_init_51 k6 rfl (by decide) (Or.inr rfl) (fun σ11 hB11 => ?_)
  refine n_putR hB11 o_Wy_init_53 fp_Wy_28 (fun h => by first | rfl | cases h) k0 (by omega) (fun _ => rfl) (fun _ => rfl) (dj_cons (Or.inr (show (4 : Nat) ≠ 5 by decide)) (dj_cons (Or.inr (show (3 : Nat) ≠ 5 by decide)) (dj_cons (Or.inr (show (2 : Nat) ≠ 5 by decide)) (dj_cons (Or.inr (show (1 : Nat) ≠ 5 by decide)) (dj_cons (Or.inr (show (0 : Nat) ≠ 5 by decide)) (dj_lt hfs)))))) (fun σ12 hB12 => ?_)
  exact q_vre o_Wy_init_56 rfl ⟨fun i e => (by cases e), rfl, hB12⟩
