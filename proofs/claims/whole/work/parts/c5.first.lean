-- the reference's first two calls: its own cells are made, the law's row is not yet
def q_Si (σ : q_S) : Prop := q_n σ = 182 ∧ ∀ x ∈ q_frz, x.1 = 159 → q_R σ x.1 x.2.1 = some x.2.2
def q_rii (P : Int32 → q_S → Prop) : Option Value → q_S → Prop := fun r σ' => q_Si σ' ∧ ∃ v, r = some (.int v) ∧ P v σ'
def q_rvi (P : q_S → Prop) : Option Value → q_S → Prop := fun r σ' => q_Si σ' ∧ r = none ∧ P σ'
theorem fi_159_10 {σ : q_S} (hs : q_Si σ) : q_R σ 159 10 = some 165 := hs.2 (159, 10, 165) (by decide +kernel) rfl
theorem fi_159_21 {σ : q_S} (hs : q_Si σ) : q_R σ 159 21 = some 172 := hs.2 (159, 21, 172) (by decide +kernel) rfl
theorem fi_159_22 {σ : q_S} (hs : q_Si σ) : q_R σ 159 22 = some 173 := hs.2 (159, 22, 173) (by decide +kernel) rfl
theorem fi_159_24 {σ : q_S} (hs : q_Si σ) : q_R σ 159 24 = some 175 := hs.2 (159, 24, 175) (by decide +kernel) rfl
theorem fi_159_26 {σ : q_S} (hs : q_Si σ) : q_R σ 159 26 = some 176 := hs.2 (159, 26, 176) (by decide +kernel) rfl
theorem fi_159_27 {σ : q_S} (hs : q_Si σ) : q_R σ 159 27 = some 177 := hs.2 (159, 27, 177) (by decide +kernel) rfl
section QFOUR
variable {G : q_G} {X Y : q_M} {d pc nx idx ci a n : Nat} {ls ls' : List (Option Value)} {st As : List Value} {σ : q_S} {Q : Option Value → q_S → Prop}
theorem q4_lt (hs : q_Si σ) (h : a < 182) : a < q_n σ := by rw [hs.1]; exact h
theorem q4_getR {j v : Nat} (hs : q_Si σ) (hd : q_D X pc (.getfield idx) 3 nx) (hf : q_F (m_y X).cls idx ci j 2) (hk : q_kd a = (0, ci)) (hv : q_R σ a j = some v) (k : q_At G X d 0 0 nx ls (.ref v :: st) σ Q) (ha : a < 182 := by decide) : q_At G X d 0 0 pc ls (.ref a :: st) σ Q := q_getR hd hf hk (q4_lt hs ha) hv k
theorem q4_getI {j : Nat} (hs : q_Si σ) (hd : q_D X pc (.getfield idx) 3 nx) (hf : q_F (m_y X).cls idx ci j 0) (hk : q_kd a = (0, ci)) (k : q_At G X d 0 0 nx ls (.int (q_I σ a j) :: st) σ Q) (ha : a < 182 := by decide) : q_At G X d 0 0 pc ls (.ref a :: st) σ Q := q_getI hd hf hk (q4_lt hs ha) k
theorem q4_putI {j : Nat} {ft : FieldType} {v : Int32} (hs : q_Si σ) (hd : q_D X pc (.putfield idx) 3 nx) (hf : q_FP (m_y X).cls idx ci j 0 ft false) (hk : q_kd a = (0, ci)) (hn : narrow ft (.int v) = .int v) (hfit : fits ft (.int v) = true) (k : q_At G X d 0 0 nx ls st (q_setI σ a j v) Q) (ha : a < 182 := by decide) : q_At G X d 0 0 pc ls (.int v :: .ref a :: st) σ Q := q_putI hd hf (fun h => by cases h) hk (q4_lt hs ha) hn hfit k
theorem q4_iald {x : Int32} {i : Nat} (hs : q_Si σ) (hd : q_D X pc .iaload 1 nx) (hk : q_kd a = (1, n)) (hx : x = nI i) (hi : i < n) (hn : n < 2 ^ 31) (k : q_At G X d 0 0 nx ls (.int (q_I σ a i) :: st) σ Q) (ha : a < 182 := by decide) : q_At G X d 0 0 pc ls (.int x :: .ref a :: st) σ Q := q_iald hd hk (q4_lt hs ha) hx hi hn k
theorem q4_iast {x v : Int32} {i : Nat} (hs : q_Si σ) (hd : q_D X pc .iastore 1 nx) (hk : q_kd a = (1, n)) (hx : x = nI i) (hi : i < n) (hn : n < 2 ^ 31) (k : q_At G X d 0 0 nx ls st (q_setI σ a i v) Q) (ha : a < 182 := by decide) : q_At G X d 0 0 pc ls (.int v :: .int x :: .ref a :: st) σ Q := q_iast hd hk (q4_lt hs ha) hx hi hn k
theorem q4_zast {x v : Int32} {i : Nat} (hs : q_Si σ) (hd : q_D X pc .bastore 1 nx) (hk : q_kd a = (3, n)) (hx : x = nI i) (hi : i < n) (hn : n < 2 ^ 31) (k : q_At G X d 0 0 nx ls st (q_setI σ a i (vp_nar .boolean v)) Q) (ha : a < 182 := by decide) : q_At G X d 0 0 pc ls (.int v :: .int x :: .ref a :: st) σ Q := q_zast hd hk (q4_lt hs ha) hx hi hn k
theorem q4_callVi (P : Int32 → q_S → Prop) (hs : q_Si σ) (hd : q_D X pc (.invokevirtual idx) 3 nx) (hC : q_CV (m_y X).cls idx Y n ci) (hk0 : q_kd a = (0, ci)) (hn : As.length = n) (hst : q_cats st ≤ 8) (h : q_Call G d 0 0 Y (.ref a :: As) σ (q_rii P)) (hq : ∀ v σ1, q_Si σ1 → P v σ1 → q_At G X (d + 1) 0 0 nx ls (.int v :: st) σ1 Q) (ha : a < 182 := by decide) : q_At G X (d + 1) 0 0 pc ls (As.reverse ++ .ref a :: st) σ Q := q_callV (b := 0) (sb := 0) (b1 := 0) (sb1 := 0) hd hC hk0 (q4_lt hs ha) hn hst h (fun r σ1 hr => by obtain ⟨h1, v, rfl, h2⟩ := hr; exact ⟨q_no_i, (fun _ => by rw [hs.1, h1.1]; exact Nat.le_refl _), hq v σ1 h1 h2⟩)
theorem q4_callVv (P : q_S → Prop) (hs : q_Si σ) (hd : q_D X pc (.invokevirtual idx) 3 nx) (hC : q_CV (m_y X).cls idx Y n ci) (hk0 : q_kd a = (0, ci)) (hn : As.length = n) (hst : q_cats st ≤ 8) (h : q_Call G d 0 0 Y (.ref a :: As) σ (q_rvi P)) (hq : ∀ σ1, q_Si σ1 → P σ1 → q_At G X (d + 1) 0 0 nx ls st σ1 Q) (ha : a < 182 := by decide) : q_At G X (d + 1) 0 0 pc ls (As.reverse ++ .ref a :: st) σ Q := q_callV (b := 0) (sb := 0) (b1 := 0) (sb1 := 0) hd hC hk0 (q4_lt hs ha) hn hst h (fun r σ1 hr => by obtain ⟨h1, rfl, h2⟩ := hr; exact ⟨q_no_v, (fun _ => by rw [hs.1, h1.1]; exact Nat.le_refl _), hq σ1 h1 h2⟩)
end QFOUR
set_option maxRecDepth 20000 in
theorem vi_M_families_0 {G : q_G} {d : Nat} {σ : q_S} {Q : Option Value → q_S → Prop}   (hs : q_Si σ) (h : Q (some (.int (q_I σ 165 1))) σ) : q_At G X_M_families d 0 0 0 [some (.ref 159)] [] σ Q := by
  refine q_aload_n o_M_families_0 rfl ?_
  refine q4_getR hs o_M_families_1 f_M_103 rfl (fi_159_10 hs) ?_
  refine q_iconst (v := 1) o_M_families_4 (by decide) ?_
  refine q4_iald (i := 1) hs o_M_families_5 rfl rfl (by decide) (by decide) ?_
  exact q_ire o_M_families_6 rfl h
theorem q4_M_families {G : q_G} {X : q_M} {d pc nx idx : Nat} {ls : List (Option Value)} {st : List Value} {σ : q_S} {Q : Option Value → q_S → Prop} (hs : q_Si σ) (hd : q_D X pc (.invokevirtual idx) 3 nx) (hC : q_CV (m_y X).cls idx X_M_families 0 11) (hst : q_cats st ≤ 8) (kk : q_At G X (d + 1) 0 0 nx ls (.int (q_I σ 165 1) :: st) σ Q) : q_At G X (d + 1) 0 0 pc ls (.ref 159 :: st) σ Q :=
  q4_callVi (fun v σ1 => v = q_I σ 165 1 ∧ σ1 = σ) (a := 159) (As := []) hs hd hC rfl rfl hst (q_ci (by decide +kernel) (Nat.le_of_ble_eq_true rfl) (fun Q hq => vi_M_families_0 hs hq) ⟨hs, _, rfl, rfl, rfl⟩) (fun v σ1 _ h => by obtain ⟨rfl, rfl⟩ := h; exact kk)
set_option maxRecDepth 20000 in
theorem vi_M_standsAsAlways_0 {G : q_G} {d : Nat} {σ : q_S} {Q : Option Value → q_S → Prop} {p0 : Int32}  (hs : q_Si σ) (h : q_At G X_M_standsAsAlways d 0 0 2 [some (.ref 159), some (.int p0), some (.int 0)] [] σ Q) : q_At G X_M_standsAsAlways d 0 0 0 [some (.ref 159), some (.int p0), none] [] σ Q := by
  refine q_iconst (v := 0) o_M_standsAsAlways_0 (by decide) ?_
  refine q2_istn (ls' := [some (.ref 159), some (.int p0), some (.int 0)]) o_M_standsAsAlways_1 (Nat.le_of_ble_eq_true rfl) rfl ?_
  exact h
set_option maxRecDepth 20000 in
theorem vi_M_standsAsAlways_2 {G : q_G} {d : Nat} {σ : q_S} {Q : Option Value → q_S → Prop} {p0 : Int32} {l2 : Int32}  (hs : q_Si σ) (h : ((200 ≤ l2 → q_At G X_M_standsAsAlways d 0 0 26 [some (.ref 159), some (.int p0), some (.int 0)] [] σ Q) ∧ (¬ 200 ≤ l2 → (∃ k5, (p0 + l2) = nI k5 ∧ k5 < 400 ∧ q_At G X_M_standsAsAlways d 0 0 2 [some (.ref 159), some (.int p0), some (.int (l2 + 1))] [] (q_setI σ 165 k5 0) Q)))) : q_At G X_M_standsAsAlways d 0 0 2 [some (.ref 159), some (.int p0), some (.int l2)] [] σ Q := by
  refine q_iload_n o_M_standsAsAlways_2 rfl ?_
  refine q_sipush (v := 200) o_M_standsAsAlways_3 (by decide) ?_
  refine q_icmp_ge o_M_standsAsAlways_6 (fun c1 => ?_) (fun c1 => ?_)
  · have h2 := h.1 c1
    refine q_iconst (v := 0) o_M_standsAsAlways_24 (by decide) ?_
    refine q2_istn (ls' := [some (.ref 159), some (.int p0), some (.int 0)]) o_M_standsAsAlways_25 (Nat.le_of_ble_eq_true rfl) rfl ?_
    exact h2
  · have h3 := h.2 c1
    refine q_aload_n o_M_standsAsAlways_9 rfl ?_
    refine q4_getR hs o_M_standsAsAlways_10 f_M_103 rfl (fi_159_10 hs) ?_
    refine q_iload_n o_M_standsAsAlways_13 rfl ?_
    refine q_iload_n o_M_standsAsAlways_14 rfl ?_
    refine q_iadd o_M_standsAsAlways_15 ?_
    refine q_iconst (v := 0) o_M_standsAsAlways_16 (by decide) ?_
    obtain ⟨k5, eh4, bh4, h4⟩ := h3
    refine q4_iast hs o_M_standsAsAlways_17 rfl eh4 bh4 (by decide) ?_
    refine q2_inc (v := (l2 + 1)) (ls' := [some (.ref 159), some (.int p0), some (.int (l2 + 1))]) o_M_standsAsAlways_18 rfl rfl (Nat.le_of_ble_eq_true rfl) rfl ?_
    refine q_goto o_M_standsAsAlways_21 ?_
    exact h4
set_option maxRecDepth 20000 in
theorem vi_M_standsAsAlways_26 {G : q_G} {d : Nat} {σ : q_S} {Q : Option Value → q_S → Prop} {p0 : Int32} {l2 : Int32}  (hs : q_Si σ) (h : ((3 ≤ l2 → Q none σ) ∧ (¬ 3 ≤ l2 → (∃ k5, ((p0 + 5) + l2) = nI k5 ∧ k5 < 400 ∧ q_At G X_M_standsAsAlways d 0 0 26 [some (.ref 159), some (.int p0), some (.int (l2 + 1))] [] (q_setI σ 165 k5 (-1)) Q)))) : q_At G X_M_standsAsAlways d 0 0 26 [some (.ref 159), some (.int p0), some (.int l2)] [] σ Q := by
  refine q_iload_n o_M_standsAsAlways_26 rfl ?_
  refine q_iconst (v := 3) o_M_standsAsAlways_27 (by decide) ?_
  refine q_icmp_ge o_M_standsAsAlways_28 (fun c1 => ?_) (fun c1 => ?_)
  · have h2 := h.1 c1
    exact q_vre o_M_standsAsAlways_48 rfl h2
  · have h3 := h.2 c1
    refine q_aload_n o_M_standsAsAlways_31 rfl ?_
    refine q4_getR hs o_M_standsAsAlways_32 f_M_103 rfl (fi_159_10 hs) ?_
    refine q_iload_n o_M_standsAsAlways_35 rfl ?_
    refine q_iconst (v := 5) o_M_standsAsAlways_36 (by decide) ?_
    refine q_iadd o_M_standsAsAlways_37 ?_
    refine q_iload_n o_M_standsAsAlways_38 rfl ?_
    refine q_iadd o_M_standsAsAlways_39 ?_
    refine q_iconst (v := (-1)) o_M_standsAsAlways_40 (by decide) ?_
    obtain ⟨k5, eh4, bh4, h4⟩ := h3
    refine q4_iast hs o_M_standsAsAlways_41 rfl eh4 bh4 (by decide) ?_
    refine q2_inc (v := (l2 + 1)) (ls' := [some (.ref 159), some (.int p0), some (.int (l2 + 1))]) o_M_standsAsAlways_42 rfl rfl (Nat.le_of_ble_eq_true rfl) rfl ?_
    refine q_goto o_M_standsAsAlways_45 ?_
    exact h4
set_option maxRecDepth 20000 in
theorem vi_M_starts_0 {G : q_G} {d : Nat} {σ : q_S} {Q : Option Value → q_S → Prop} {p0 : Int32}  (hs : q_Si σ) (h : q_At G X_M_starts (d + 1) 0 0 2 [some (.ref 159), some (.int p0), some (.int 0)] [] σ Q) : q_At G X_M_starts (d + 1) 0 0 0 [some (.ref 159), some (.int p0), none] [] σ Q := by
  refine q_iconst (v := 0) o_M_starts_0 (by decide) ?_
  refine q2_istn (ls' := [some (.ref 159), some (.int p0), some (.int 0)]) o_M_starts_1 (Nat.le_of_ble_eq_true rfl) rfl ?_
  exact h
set_option maxRecDepth 20000 in
theorem vi_M_starts_2 {G : q_G} {d : Nat} {σ : q_S} {Q : Option Value → q_S → Prop} {p0 : Int32} {l2 : Int32}  (hs : q_Si σ) (h : ((6 ≤ l2 → q_At G X_M_starts (d + 1) 0 0 56 [some (.ref 159), some (.int p0), some (.int 0)] [] σ Q) ∧ (¬ 6 ≤ l2 → (∃ k5, ((p0 + 0) + l2) = nI k5 ∧ k5 < 1886 ∧ (((q_I (q_setI σ 175 k5 l2) 165 1) ≤ l2 → (∃ k9, ((p0 + 6) + l2) = nI k9 ∧ k9 < 1886 ∧ q_At G X_M_starts (d + 1) 0 0 2 [some (.ref 159), some (.int p0), some (.int (l2 + 1))] [] (q_setI (q_setI σ 175 k5 l2) 175 k9 0) Q)) ∧ (¬ (q_I (q_setI σ 175 k5 l2) 165 1) ≤ l2 → q_Call G d 0 0 X_M_familyOf [.ref 159, .int l2, .int 3] (q_setI σ 175 k5 l2) (q_rii (fun x14 σ12 => (∃ k16, ((p0 + 6) + l2) = nI k16 ∧ k16 < 1886 ∧ q_At G X_M_starts (d + 1) 0 0 2 [some (.ref 159), some (.int p0), some (.int (l2 + 1))] [] (q_setI σ12 175 k16 x14) Q))))))))) : q_At G X_M_starts (d + 1) 0 0 2 [some (.ref 159), some (.int p0), some (.int l2)] [] σ Q := by
  refine q_iload_n o_M_starts_2 rfl ?_
  refine q_bipush (v := 6) o_M_starts_3 (by decide) ?_
  refine q_icmp_ge o_M_starts_5 (fun c1 => ?_) (fun c1 => ?_)
  · have h2 := h.1 c1
    refine q_iconst (v := 0) o_M_starts_54 (by decide) ?_
    refine q2_istn (ls' := [some (.ref 159), some (.int p0), some (.int 0)]) o_M_starts_55 (Nat.le_of_ble_eq_true rfl) rfl ?_
    exact h2
  · have h3 := h.2 c1
    refine q_aload_n o_M_starts_8 rfl ?_
    refine q4_getR hs o_M_starts_9 f_M_133 rfl (fi_159_24 hs) ?_
    refine q_iload_n o_M_starts_12 rfl ?_
    refine q_iconst (v := 0) o_M_starts_13 (by decide) ?_
    refine q_iadd o_M_starts_14 ?_
    refine q_iload_n o_M_starts_15 rfl ?_
    refine q_iadd o_M_starts_16 ?_
    refine q_iload_n o_M_starts_17 rfl ?_
    obtain ⟨k5, eh4, bh4, h4⟩ := h3
    refine q4_iast hs o_M_starts_18 rfl eh4 bh4 (by decide) ?_
    refine q_aload_n o_M_starts_19 rfl ?_
    refine q4_getR hs o_M_starts_20 f_M_133 rfl (fi_159_24 hs) ?_
    refine q_iload_n o_M_starts_23 rfl ?_
    refine q_bipush (v := 6) o_M_starts_24 (by decide) ?_
    refine q_iadd o_M_starts_26 ?_
    refine q_iload_n o_M_starts_27 rfl ?_
    refine q_iadd o_M_starts_28 ?_
    refine q_iload_n o_M_starts_29 rfl ?_
    refine q_aload_n o_M_starts_30 rfl ?_
    refine q4_M_families hs o_M_starts_31 k_M_309 (Nat.le_of_ble_eq_true rfl) ?_
    refine q_icmp_ge o_M_starts_34 (fun c6 => ?_) (fun c6 => ?_)
    · have h7 := h4.1 c6
      refine q_iconst (v := 0) o_M_starts_46 (by decide) ?_
      obtain ⟨k9, eh8, bh8, h8⟩ := h7
      refine q4_iast hs o_M_starts_47 rfl eh8 bh8 (by decide) ?_
      refine q2_inc (v := (l2 + 1)) (ls' := [some (.ref 159), some (.int p0), some (.int (l2 + 1))]) o_M_starts_48 rfl rfl (Nat.le_of_ble_eq_true rfl) rfl ?_
      refine q_goto o_M_starts_51 ?_
      exact h8
    · have h10 := h4.2 c6
      refine q_aload_n o_M_starts_37 rfl ?_
      refine q_iload_n o_M_starts_38 rfl ?_
      refine q_iconst (v := 3) o_M_starts_39 (by decide) ?_
      refine q4_callVi _ (a := 159) (As := [.int l2, .int 3]) (st := [.int ((p0 + 6) + l2), .ref 175]) hs o_M_starts_40 k_M_313 rfl rfl (Nat.le_of_ble_eq_true rfl) h10 (fun x14 σ12 hs13 h11 => ?_)
      refine q_goto o_M_starts_43 ?_
      obtain ⟨k16, eh15, bh15, h15⟩ := h11
      refine q4_iast hs13 o_M_starts_47 rfl eh15 bh15 (by decide) ?_
      refine q2_inc (v := (l2 + 1)) (ls' := [some (.ref 159), some (.int p0), some (.int (l2 + 1))]) o_M_starts_48 rfl rfl (Nat.le_of_ble_eq_true rfl) rfl ?_
      refine q_goto o_M_starts_51 ?_
      exact h15
set_option maxRecDepth 20000 in
theorem vi_M_starts_56 {G : q_G} {d : Nat} {σ : q_S} {Q : Option Value → q_S → Prop} {p0 : Int32} {l2 : Int32}  (hs : q_Si σ) (h : ((36 ≤ l2 → (∃ k4, (p0 + 48) = nI k4 ∧ k4 < 1886 ∧ (∃ k6, (p0 + 49) = nI k6 ∧ k6 < 1886 ∧ Q none (q_setI (q_setI σ 175 k4 0) 175 k6 0)))) ∧ (¬ 36 ≤ l2 → (∃ k9, (140 + l2) = nI k9 ∧ k9 < 400 ∧ (∃ k11, ((p0 + 12) + l2) = nI k11 ∧ k11 < 1886 ∧ q_At G X_M_starts (d + 1) 0 0 56 [some (.ref 159), some (.int p0), some (.int (l2 + 1))] [] (q_setI σ 175 k11 (q_I σ 165 k9)) Q))))) : q_At G X_M_starts (d + 1) 0 0 56 [some (.ref 159), some (.int p0), some (.int l2)] [] σ Q := by
  refine q_iload_n o_M_starts_56 rfl ?_
  refine q_bipush (v := 36) o_M_starts_57 (by decide) ?_
  refine q_icmp_ge o_M_starts_59 (fun c1 => ?_) (fun c1 => ?_)
  · have h2 := h.1 c1
    refine q_aload_n o_M_starts_89 rfl ?_
    refine q4_getR hs o_M_starts_90 f_M_133 rfl (fi_159_24 hs) ?_
    refine q_iload_n o_M_starts_93 rfl ?_
    refine q_bipush (v := 48) o_M_starts_94 (by decide) ?_
    refine q_iadd o_M_starts_96 ?_
    refine q_iconst (v := 0) o_M_starts_97 (by decide) ?_
    obtain ⟨k4, eh3, bh3, h3⟩ := h2
    refine q4_iast hs o_M_starts_98 rfl eh3 bh3 (by decide) ?_
    refine q_aload_n o_M_starts_99 rfl ?_
    refine q4_getR hs o_M_starts_100 f_M_133 rfl (fi_159_24 hs) ?_
    refine q_iload_n o_M_starts_103 rfl ?_
    refine q_bipush (v := 49) o_M_starts_104 (by decide) ?_
    refine q_iadd o_M_starts_106 ?_
    refine q_iconst (v := 0) o_M_starts_107 (by decide) ?_
    obtain ⟨k6, eh5, bh5, h5⟩ := h3
    refine q4_iast hs o_M_starts_108 rfl eh5 bh5 (by decide) ?_
    exact q_vre o_M_starts_109 rfl h5
  · have h7 := h.2 c1
    refine q_aload_n o_M_starts_62 rfl ?_
    refine q4_getR hs o_M_starts_63 f_M_133 rfl (fi_159_24 hs) ?_
    refine q_iload_n o_M_starts_66 rfl ?_
    refine q_bipush (v := 12) o_M_starts_67 (by decide) ?_
    refine q_iadd o_M_starts_69 ?_
    refine q_iload_n o_M_starts_70 rfl ?_
    refine q_iadd o_M_starts_71 ?_
    refine q_aload_n o_M_starts_72 rfl ?_
    refine q4_getR hs o_M_starts_73 f_M_103 rfl (fi_159_10 hs) ?_
    refine q_sipush (v := 140) o_M_starts_76 (by decide) ?_
    refine q_iload_n o_M_starts_79 rfl ?_
    refine q_iadd o_M_starts_80 ?_
    obtain ⟨k9, eh8, bh8, h8⟩ := h7
    refine q4_iald hs o_M_starts_81 rfl eh8 bh8 (by decide) ?_
    obtain ⟨k11, eh10, bh10, h10⟩ := h8
    refine q4_iast hs o_M_starts_82 rfl eh10 bh10 (by decide) ?_
    refine q2_inc (v := (l2 + 1)) (ls' := [some (.ref 159), some (.int p0), some (.int (l2 + 1))]) o_M_starts_83 rfl rfl (Nat.le_of_ble_eq_true rfl) rfl ?_
    refine q_goto o_M_starts_86 ?_
    exact h10
set_option maxRecDepth 20000 in
theorem vi_M_laysNoises_0 {G : q_G} {d : Nat} {σ : q_S} {Q : Option Value → q_S → Prop}   (hs : q_Si σ) (h : q_At G X_M_laysNoises (d + 1) 0 0 2 [some (.ref 159), some (.int 0), none, none, none] [] σ Q) : q_At G X_M_laysNoises (d + 1) 0 0 0 [some (.ref 159), none, none, none, none] [] σ Q := by
  refine q_iconst (v := 0) o_M_laysNoises_0 (by decide) ?_
  refine q2_istn (ls' := [some (.ref 159), some (.int 0), none, none, none]) o_M_laysNoises_1 (Nat.le_of_ble_eq_true rfl) rfl ?_
  exact h
set_option maxRecDepth 20000 in
theorem vi_M_laysNoises_2 {G : q_G} {d : Nat} {σ : q_S} {Q : Option Value → q_S → Prop} {l1 : Int32}  (hs : q_Si σ) (h : ((360 ≤ l1 → Q none σ) ∧ (¬ 360 ≤ l1 → (((q_I σ 165 1) ≤ (l1 / 60) → q_At G X_M_laysNoises (d + 1) 0 0 2 [some (.ref 159), some (.int (l1 + 1)), none, none, none] [] σ Q) ∧ (¬ (q_I σ 165 1) ≤ (l1 / 60) → (((q_I σ 165 1) ≤ ((l1 / 10) - (l1 / 10) / 6 * 6) → q_At G X_M_laysNoises (d + 1) 0 0 2 [some (.ref 159), some (.int (l1 + 1)), none, none, none] [] σ Q) ∧ (¬ (q_I σ 165 1) ≤ ((l1 / 10) - (l1 / 10) / 6 * 6) → q_Call G d 0 0 X_M_loudOf [.ref 159, .int ((l1 / 10) - (l1 / 10) / 6 * 6)] σ (q_rii (fun x13 σ11 => q_Call G d 0 0 X_M_hearingOf [.ref 159, .int (l1 / 60)] (q_setI σ11 173 0 x13) (q_rii (fun x19 σ17 => ((0 ≤ (q_I (q_setI (q_setI σ17 173 1 x19) 173 2 (l1 - l1 / 10 * 10)) 165 5) → q_Call G d 0 0 X_M_worthAt [.ref 159, .int (q_I (q_setI (q_setI σ17 173 1 x19) 173 2 (l1 - l1 / 10 * 10)) 165 5)] (q_setI (q_setI σ17 173 1 x19) 173 2 (l1 - l1 / 10 * 10)) (q_rii (fun x33 σ31 => (∃ k37, l1 = nI k37 ∧ k37 < 360 ∧ q_At G X_M_laysNoises (d + 1) 0 0 2 [some (.ref 159), some (.int (l1 + 1)), none, none, none] [] (q_setI σ31 177 k37 (if 0 ≤ x33 then (if x33 ≤ 99 then x33 else (99 : Int32)) else (0 : Int32))) Q)))) ∧ (¬ 0 ≤ (q_I (q_setI (q_setI σ17 173 1 x19) 173 2 (l1 - l1 / 10 * 10)) 165 5) → (∃ k48, l1 = nI k48 ∧ k48 < 360 ∧ q_At G X_M_laysNoises (d + 1) 0 0 2 [some (.ref 159), some (.int (l1 + 1)), none, none, none] [] (q_setI (q_setI (q_setI σ17 173 1 x19) 173 2 (l1 - l1 / 10 * 10)) 177 k48 (if 0 ≤ (((q_I (q_setI (q_setI σ17 173 1 x19) 173 2 (l1 - l1 / 10 * 10)) 173 0) + (q_I (q_setI (q_setI σ17 173 1 x19) 173 2 (l1 - l1 / 10 * 10)) 173 1)) - (q_I (q_setI (q_setI σ17 173 1 x19) 173 2 (l1 - l1 / 10 * 10)) 173 2)) then (if (((q_I (q_setI (q_setI σ17 173 1 x19) 173 2 (l1 - l1 / 10 * 10)) 173 0) + (q_I (q_setI (q_setI σ17 173 1 x19) 173 2 (l1 - l1 / 10 * 10)) 173 1)) - (q_I (q_setI (q_setI σ17 173 1 x19) 173 2 (l1 - l1 / 10 * 10)) 173 2)) ≤ 99 then (((q_I (q_setI (q_setI σ17 173 1 x19) 173 2 (l1 - l1 / 10 * 10)) 173 0) + (q_I (q_setI (q_setI σ17 173 1 x19) 173 2 (l1 - l1 / 10 * 10)) 173 1)) - (q_I (q_setI (q_setI σ17 173 1 x19) 173 2 (l1 - l1 / 10 * 10)) 173 2)) else (99 : Int32)) else (0 : Int32))) Q)))))))))))))) : q_At G X_M_laysNoises (d + 1) 0 0 2 [some (.ref 159), some (.int l1), none, none, none] [] σ Q := by
  refine q_iload_n o_M_laysNoises_2 rfl ?_
  refine q_sipush (v := 360) o_M_laysNoises_3 (by decide) ?_
  refine q_icmp_ge o_M_laysNoises_6 (fun c1 => ?_) (fun c1 => ?_)
  · have h2 := h.1 c1
    exact q_vre o_M_laysNoises_149 rfl h2
  · have h3 := h.2 c1
    refine q_iload_n o_M_laysNoises_9 rfl ?_
    refine q_bipush (v := 60) o_M_laysNoises_10 (by decide) ?_
    refine q_idiv o_M_laysNoises_12 (by decide) ?_
    refine q2_istn (ls' := [some (.ref 159), some (.int l1), some (.int (l1 / 60)), none, none]) o_M_laysNoises_13 (Nat.le_of_ble_eq_true rfl) rfl ?_
    refine q_iload_n o_M_laysNoises_14 rfl ?_
    refine q_bipush (v := 10) o_M_laysNoises_15 (by decide) ?_
    refine q_idiv o_M_laysNoises_17 (by decide) ?_
    refine q_bipush (v := 6) o_M_laysNoises_18 (by decide) ?_
    refine q_irem o_M_laysNoises_20 (by decide) ?_
    refine q2_istn (ls' := [some (.ref 159), some (.int l1), some (.int (l1 / 60)), some (.int ((l1 / 10) - (l1 / 10) / 6 * 6)), none]) o_M_laysNoises_21 (Nat.le_of_ble_eq_true rfl) rfl ?_
    refine q_iload_n o_M_laysNoises_22 rfl ?_
    refine q_aload_n o_M_laysNoises_23 rfl ?_
    refine q4_M_families hs o_M_laysNoises_24 k_M_309 (Nat.le_of_ble_eq_true rfl) ?_
    refine q_icmp_ge o_M_laysNoises_27 (fun c4 => ?_) (fun c4 => ?_)
    · have h5 := h3.1 c4
      refine q2_inc (v := (l1 + 1)) (ls' := [some (.ref 159), some (.int (l1 + 1)), some (.int (l1 / 60)), some (.int ((l1 / 10) - (l1 / 10) / 6 * 6)), none]) o_M_laysNoises_143 rfl rfl (Nat.le_of_ble_eq_true rfl) rfl ?_
      refine q_goto o_M_laysNoises_146 ?_
      exact q_weak (ls' := [some (.ref 159), some (.int (l1 + 1)), none, none, none]) (And.intro rfl (And.intro rfl trivial)) h5
    · have h6 := h3.2 c4
      refine q_iload_n o_M_laysNoises_30 rfl ?_
      refine q_aload_n o_M_laysNoises_31 rfl ?_
      refine q4_M_families hs o_M_laysNoises_32 k_M_309 (Nat.le_of_ble_eq_true rfl) ?_
      refine q_icmp_ge o_M_laysNoises_35 (fun c7 => ?_) (fun c7 => ?_)
      · have h8 := h6.1 c7
        refine q2_inc (v := (l1 + 1)) (ls' := [some (.ref 159), some (.int (l1 + 1)), some (.int (l1 / 60)), some (.int ((l1 / 10) - (l1 / 10) / 6 * 6)), none]) o_M_laysNoises_143 rfl rfl (Nat.le_of_ble_eq_true rfl) rfl ?_
        refine q_goto o_M_laysNoises_146 ?_
        exact q_weak (ls' := [some (.ref 159), some (.int (l1 + 1)), none, none, none]) (And.intro rfl (And.intro rfl trivial)) h8
      · have h9 := h6.2 c7
        refine q_aload_n o_M_laysNoises_38 rfl ?_
        refine q4_getR hs o_M_laysNoises_39 f_M_127 rfl (fi_159_22 hs) ?_
        refine q_iconst (v := 0) o_M_laysNoises_42 (by decide) ?_
        refine q_aload_n o_M_laysNoises_43 rfl ?_
        refine q_iload_n o_M_laysNoises_44 rfl ?_
        refine q4_callVi _ (a := 159) (As := [.int ((l1 / 10) - (l1 / 10) / 6 * 6)]) (st := [.int 0, .ref 173]) hs o_M_laysNoises_45 k_M_335 rfl rfl (Nat.le_of_ble_eq_true rfl) h9 (fun x13 σ11 hs12 h10 => ?_)
        refine q4_iast (i := 0) hs12 o_M_laysNoises_48 rfl rfl (by decide) (by decide) ?_
        refine q_aload_n o_M_laysNoises_49 rfl ?_
        refine q4_getR hs12 o_M_laysNoises_50 f_M_127 rfl (fi_159_22 hs12) ?_
        refine q_iconst (v := 1) o_M_laysNoises_53 (by decide) ?_
        refine q_aload_n o_M_laysNoises_54 rfl ?_
        refine q_iload_n o_M_laysNoises_55 rfl ?_
        refine q4_callVi _ (a := 159) (As := [.int (l1 / 60)]) (st := [.int 1, .ref 173]) hs12 o_M_laysNoises_56 k_M_338 rfl rfl (Nat.le_of_ble_eq_true rfl) h10 (fun x19 σ17 hs18 h16 => ?_)
        refine q4_iast (i := 1) hs18 o_M_laysNoises_59 rfl rfl (by decide) (by decide) ?_
        refine q_aload_n o_M_laysNoises_60 rfl ?_
        refine q4_getR hs18 o_M_laysNoises_61 f_M_127 rfl (fi_159_22 hs18) ?_
        refine q_iconst (v := 2) o_M_laysNoises_64 (by decide) ?_
        refine q_iload_n o_M_laysNoises_65 rfl ?_
        refine q_bipush (v := 10) o_M_laysNoises_66 (by decide) ?_
        refine q_irem o_M_laysNoises_68 (by decide) ?_
        refine q4_iast (i := 2) hs18 o_M_laysNoises_69 rfl rfl (by decide) (by decide) ?_
        refine q_aload_n o_M_laysNoises_70 rfl ?_
        refine q4_getR hs18 o_M_laysNoises_71 f_M_103 rfl (fi_159_10 hs18) ?_
        refine q_iconst (v := 5) o_M_laysNoises_74 (by decide) ?_
        refine q4_iald (i := 5) hs18 o_M_laysNoises_75 rfl rfl (by decide) (by decide) ?_
        refine q_if_ge o_M_laysNoises_76 (fun c26 => ?_) (fun c26 => ?_)
        · have h27 := h16.1 c26
          refine q_aload_n o_M_laysNoises_102 rfl ?_
          refine q_aload_n o_M_laysNoises_103 rfl ?_
          refine q4_getR hs18 o_M_laysNoises_104 f_M_103 rfl (fi_159_10 hs18) ?_
          refine q_iconst (v := 5) o_M_laysNoises_107 (by decide) ?_
          refine q4_iald (i := 5) hs18 o_M_laysNoises_108 rfl rfl (by decide) (by decide) ?_
          refine q4_callVi _ (a := 159) (As := [.int (q_I (q_setI (q_setI σ17 173 1 x19) 173 2 (l1 - l1 / 10 * 10)) 165 5)]) (st := []) hs18 o_M_laysNoises_109 k_M_341 rfl rfl (Nat.le_of_ble_eq_true rfl) h27 (fun x33 σ31 hs32 h30 => ?_)
          refine q2_ist (ls' := [some (.ref 159), some (.int l1), some (.int (l1 / 60)), some (.int ((l1 / 10) - (l1 / 10) / 6 * 6)), some (.int x33)]) o_M_laysNoises_112 (Nat.le_of_ble_eq_true rfl) rfl ?_
          refine q_aload_n o_M_laysNoises_114 rfl ?_
          refine q4_getR hs32 o_M_laysNoises_115 f_M_140 rfl (fi_159_27 hs32) ?_
          refine q_iload_n o_M_laysNoises_118 rfl ?_
          refine q_iload o_M_laysNoises_119 rfl ?_
          have hJ : ∀ vJ : Int32, vJ = (if 0 ≤ x33 then (if x33 ≤ 99 then x33 else (99 : Int32)) else (0 : Int32)) → q_At G X_M_laysNoises (d + 1) 0 0 142 [some (.ref 159), some (.int l1), some (.int (l1 / 60)), some (.int ((l1 / 10) - (l1 / 10) / 6 * 6)), some (.int x33)] [.int vJ, .int l1, .ref 177] σ31 Q := by
            intro vJ eJ
            rw [eJ]
            clear eJ vJ
            obtain ⟨k37, eh36, bh36, h36⟩ := h30
            refine q4_iast hs32 o_M_laysNoises_142 rfl eh36 bh36 (by decide) ?_
            refine q2_inc (v := (l1 + 1)) (ls' := [some (.ref 159), some (.int (l1 + 1)), some (.int (l1 / 60)), some (.int ((l1 / 10) - (l1 / 10) / 6 * 6)), some (.int x33)]) o_M_laysNoises_143 rfl rfl (Nat.le_of_ble_eq_true rfl) rfl ?_
            refine q_goto o_M_laysNoises_146 ?_
            exact q_weak (ls' := [some (.ref 159), some (.int (l1 + 1)), none, none, none]) (And.intro rfl (And.intro rfl trivial)) h36
          refine q_if_ge o_M_laysNoises_121 (fun c34 => ?_) (fun c34 => ?_)
          · refine q_iload o_M_laysNoises_128 rfl ?_
            refine q_bipush (v := 99) o_M_laysNoises_130 (by decide) ?_
            refine q_icmp_le o_M_laysNoises_132 (fun c35 => ?_) (fun c35 => ?_)
            · refine q_iload o_M_laysNoises_140 rfl ?_
              exact hJ _ (Eq.symm ((if_pos c34).trans (if_pos c35)))
            · refine q_bipush (v := 99) o_M_laysNoises_135 (by decide) ?_
              refine q_goto o_M_laysNoises_137 ?_
              exact hJ _ (Eq.symm ((if_pos c34).trans (if_neg c35)))
          · refine q_iconst (v := 0) o_M_laysNoises_124 (by decide) ?_
            refine q_goto o_M_laysNoises_125 ?_
            exact hJ _ (Eq.symm (if_neg c34))
        · have h38 := h16.2 c26
          refine q_aload_n o_M_laysNoises_79 rfl ?_
          refine q4_getR hs18 o_M_laysNoises_80 f_M_127 rfl (fi_159_22 hs18) ?_
          refine q_iconst (v := 0) o_M_laysNoises_83 (by decide) ?_
          refine q4_iald (i := 0) hs18 o_M_laysNoises_84 rfl rfl (by decide) (by decide) ?_
          refine q_aload_n o_M_laysNoises_85 rfl ?_
          refine q4_getR hs18 o_M_laysNoises_86 f_M_127 rfl (fi_159_22 hs18) ?_
          refine q_iconst (v := 1) o_M_laysNoises_89 (by decide) ?_
          refine q4_iald (i := 1) hs18 o_M_laysNoises_90 rfl rfl (by decide) (by decide) ?_
          refine q_iadd o_M_laysNoises_91 ?_
          refine q_aload_n o_M_laysNoises_92 rfl ?_
          refine q4_getR hs18 o_M_laysNoises_93 f_M_127 rfl (fi_159_22 hs18) ?_
          refine q_iconst (v := 2) o_M_laysNoises_96 (by decide) ?_
          refine q4_iald (i := 2) hs18 o_M_laysNoises_97 rfl rfl (by decide) (by decide) ?_
          refine q_isub o_M_laysNoises_98 ?_
          refine q_goto o_M_laysNoises_99 ?_
          refine q2_ist (ls' := [some (.ref 159), some (.int l1), some (.int (l1 / 60)), some (.int ((l1 / 10) - (l1 / 10) / 6 * 6)), some (.int (((q_I (q_setI (q_setI σ17 173 1 x19) 173 2 (l1 - l1 / 10 * 10)) 173 0) + (q_I (q_setI (q_setI σ17 173 1 x19) 173 2 (l1 - l1 / 10 * 10)) 173 1)) - (q_I (q_setI (q_setI σ17 173 1 x19) 173 2 (l1 - l1 / 10 * 10)) 173 2)))]) o_M_laysNoises_112 (Nat.le_of_ble_eq_true rfl) rfl ?_
          refine q_aload_n o_M_laysNoises_114 rfl ?_
          refine q4_getR hs18 o_M_laysNoises_115 f_M_140 rfl (fi_159_27 hs18) ?_
          refine q_iload_n o_M_laysNoises_118 rfl ?_
          refine q_iload o_M_laysNoises_119 rfl ?_
          have hJ : ∀ vJ : Int32, vJ = (if 0 ≤ (((q_I (q_setI (q_setI σ17 173 1 x19) 173 2 (l1 - l1 / 10 * 10)) 173 0) + (q_I (q_setI (q_setI σ17 173 1 x19) 173 2 (l1 - l1 / 10 * 10)) 173 1)) - (q_I (q_setI (q_setI σ17 173 1 x19) 173 2 (l1 - l1 / 10 * 10)) 173 2)) then (if (((q_I (q_setI (q_setI σ17 173 1 x19) 173 2 (l1 - l1 / 10 * 10)) 173 0) + (q_I (q_setI (q_setI σ17 173 1 x19) 173 2 (l1 - l1 / 10 * 10)) 173 1)) - (q_I (q_setI (q_setI σ17 173 1 x19) 173 2 (l1 - l1 / 10 * 10)) 173 2)) ≤ 99 then (((q_I (q_setI (q_setI σ17 173 1 x19) 173 2 (l1 - l1 / 10 * 10)) 173 0) + (q_I (q_setI (q_setI σ17 173 1 x19) 173 2 (l1 - l1 / 10 * 10)) 173 1)) - (q_I (q_setI (q_setI σ17 173 1 x19) 173 2 (l1 - l1 / 10 * 10)) 173 2)) else (99 : Int32)) else (0 : Int32)) → q_At G X_M_laysNoises (d + 1) 0 0 142 [some (.ref 159), some (.int l1), some (.int (l1 / 60)), some (.int ((l1 / 10) - (l1 / 10) / 6 * 6)), some (.int (((q_I (q_setI (q_setI σ17 173 1 x19) 173 2 (l1 - l1 / 10 * 10)) 173 0) + (q_I (q_setI (q_setI σ17 173 1 x19) 173 2 (l1 - l1 / 10 * 10)) 173 1)) - (q_I (q_setI (q_setI σ17 173 1 x19) 173 2 (l1 - l1 / 10 * 10)) 173 2)))] [.int vJ, .int l1, .ref 177] (q_setI (q_setI σ17 173 1 x19) 173 2 (l1 - l1 / 10 * 10)) Q := by
            intro vJ eJ
            rw [eJ]
            clear eJ vJ
            obtain ⟨k48, eh47, bh47, h47⟩ := h38
            refine q4_iast hs18 o_M_laysNoises_142 rfl eh47 bh47 (by decide) ?_
            refine q2_inc (v := (l1 + 1)) (ls' := [some (.ref 159), some (.int (l1 + 1)), some (.int (l1 / 60)), some (.int ((l1 / 10) - (l1 / 10) / 6 * 6)), some (.int (((q_I (q_setI (q_setI σ17 173 1 x19) 173 2 (l1 - l1 / 10 * 10)) 173 0) + (q_I (q_setI (q_setI σ17 173 1 x19) 173 2 (l1 - l1 / 10 * 10)) 173 1)) - (q_I (q_setI (q_setI σ17 173 1 x19) 173 2 (l1 - l1 / 10 * 10)) 173 2)))]) o_M_laysNoises_143 rfl rfl (Nat.le_of_ble_eq_true rfl) rfl ?_
            refine q_goto o_M_laysNoises_146 ?_
            exact q_weak (ls' := [some (.ref 159), some (.int (l1 + 1)), none, none, none]) (And.intro rfl (And.intro rfl trivial)) h47
          refine q_if_ge o_M_laysNoises_121 (fun c45 => ?_) (fun c45 => ?_)
          · refine q_iload o_M_laysNoises_128 rfl ?_
            refine q_bipush (v := 99) o_M_laysNoises_130 (by decide) ?_
            refine q_icmp_le o_M_laysNoises_132 (fun c46 => ?_) (fun c46 => ?_)
            · refine q_iload o_M_laysNoises_140 rfl ?_
              exact hJ _ (Eq.symm ((if_pos c45).trans (if_pos c46)))
            · refine q_bipush (v := 99) o_M_laysNoises_135 (by decide) ?_
              refine q_goto o_M_laysNoises_137 ?_
              exact hJ _ (Eq.symm ((if_pos c45).trans (if_neg c46)))
          · refine q_iconst (v := 0) o_M_laysNoises_124 (by decide) ?_
            refine q_goto o_M_laysNoises_125 ?_
            exact hJ _ (Eq.symm (if_neg c45))
set_option maxRecDepth 20000 in
theorem vi_M_begins_0 {G : q_G} {d : Nat} {σ : q_S} {Q : Option Value → q_S → Prop}   (hs : q_Si σ) (h : q_Call G d 0 0 X_M_laysNoises [.ref 159] σ (q_rvi (fun σ2 => q_Call G d 0 0 X_M_starts [.ref 159, .int 0] σ2 (q_rvi (fun σ5 => q_At G X_M_begins (d + 1) 0 0 31 [some (.ref 159), some (.int 0)] [] (q_setI (q_setI (q_setI σ5 175 50 0) 172 0 0) 159 25 0) Q))))) : q_At G X_M_begins (d + 1) 0 0 0 [some (.ref 159), none] [] σ Q := by
  refine q_aload_n o_M_begins_0 rfl ?_
  refine q4_callVv _ (a := 159) (As := []) (st := []) hs o_M_begins_1 k_M_316 rfl rfl (Nat.le_of_ble_eq_true rfl) h (fun σ2 hs3 h1 => ?_)
  refine q_aload_n o_M_begins_4 rfl ?_
  refine q_iconst (v := 0) o_M_begins_5 (by decide) ?_
  refine q4_callVv _ (a := 159) (As := [.int 0]) (st := []) hs3 o_M_begins_6 k_M_319 rfl rfl (Nat.le_of_ble_eq_true rfl) h1 (fun σ5 hs6 h4 => ?_)
  refine q_aload_n o_M_begins_9 rfl ?_
  refine q4_getR hs6 o_M_begins_10 f_M_133 rfl (fi_159_24 hs6) ?_
  refine q_bipush (v := 50) o_M_begins_13 (by decide) ?_
  refine q_iconst (v := 0) o_M_begins_15 (by decide) ?_
  refine q4_iast (i := 50) hs6 o_M_begins_16 rfl rfl (by decide) (by decide) ?_
  refine q_aload_n o_M_begins_17 rfl ?_
  refine q4_getR hs6 o_M_begins_18 f_M_124 rfl (fi_159_21 hs6) ?_
  refine q_iconst (v := 0) o_M_begins_21 (by decide) ?_
  refine q_iconst (v := 0) o_M_begins_22 (by decide) ?_
  refine q4_iast (i := 0) hs6 o_M_begins_23 rfl rfl (by decide) (by decide) ?_
  refine q_aload_n o_M_begins_24 rfl ?_
  refine q_iconst (v := 0) o_M_begins_25 (by decide) ?_
  refine q4_putI hs6 o_M_begins_26 fp_M_322 rfl rfl rfl ?_
  refine q_iconst (v := 0) o_M_begins_29 (by decide) ?_
  refine q2_istn (ls' := [some (.ref 159), some (.int 0)]) o_M_begins_30 (Nat.le_of_ble_eq_true rfl) rfl ?_
  exact h4
set_option maxRecDepth 20000 in
theorem vi_M_begins_31 {G : q_G} {d : Nat} {σ : q_S} {Q : Option Value → q_S → Prop} {l1 : Int32}  (hs : q_Si σ) (h : ((4 ≤ l1 → Q none σ) ∧ (¬ 4 ≤ l1 → (∃ k5, l1 = nI k5 ∧ k5 < 4 ∧ q_At G X_M_begins (d + 1) 0 0 31 [some (.ref 159), some (.int (l1 + 1))] [] (q_setI σ 176 k5 (vp_nar .boolean 0)) Q)))) : q_At G X_M_begins (d + 1) 0 0 31 [some (.ref 159), some (.int l1)] [] σ Q := by
  refine q_iload_n o_M_begins_31 rfl ?_
  refine q_iconst (v := 4) o_M_begins_32 (by decide) ?_
  refine q_icmp_ge o_M_begins_33 (fun c1 => ?_) (fun c1 => ?_)
  · have h2 := h.1 c1
    exact q_vre o_M_begins_49 rfl h2
  · have h3 := h.2 c1
    refine q_aload_n o_M_begins_36 rfl ?_
    refine q4_getR hs o_M_begins_37 f_M_136 rfl (fi_159_26 hs) ?_
    refine q_iload_n o_M_begins_40 rfl ?_
    refine q_iconst (v := 0) o_M_begins_41 (by decide) ?_
    obtain ⟨k5, eh4, bh4, h4⟩ := h3
    refine q4_zast hs o_M_begins_42 rfl eh4 bh4 (by decide) ?_
    refine q2_inc (v := (l1 + 1)) (ls' := [some (.ref 159), some (.int (l1 + 1))]) o_M_begins_43 rfl rfl (Nat.le_of_ble_eq_true rfl) rfl ?_
    refine q_goto o_M_begins_46 ?_
    exact h4
