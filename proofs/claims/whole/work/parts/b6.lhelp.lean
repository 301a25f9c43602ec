theorem x_w4 : Cond.castable x_E x_E ∈ q_nest := by decide +kernel
theorem x_w5 : Cond.classLink "WallLotteryLaw" 13 x_E ∈ q_GT := by decide +kernel
theorem kd_0 : q_kd 0 = (0, 10) := by decide +kernel
theorem kd_182 : q_kd 182 = (2, 1) := by decide +kernel
section LHELP
variable {G : q_G} {d : Nat} {σ : q_S} {Q Q' : Option Value → q_S → Prop} {QX : q_S → Prop} {x y z : Int32}
theorem x_cast {X : q_M} {p : Program} {R : Room} {s : State} {m : MethodId} {args : Array Value} {meth : Method} {c : Code} (hB : q_B G X d p R s m args meth c) : (Cond.castable x_E x_E).before args s = true := by
  have h1 : va_Nw (Cond.castable x_E x_E) s := hB.2.2.2.2.2.2.2.2.1.2.1 _ x_w4
  exact vx_ot_at (State.WarmedH.refl s) rfl (by decide +kernel) h1
theorem L_one {Z Y : q_M} {idx : Nat} (hcls : (m_y Z).cls = "WallLotteryLaw") (hm : m_m Z = 4) (hr : m_r Z = some .int)
    (i0 : q_D Z 0 (.aload_n 2) 1 1) (i1 : q_D Z 1 (.iconst 0) 1 2) (i2 : q_D Z 2 (.aload_n 0) 1 3) (i3 : q_D Z 3 (.iload_n 1) 1 4) (i4 : q_D Z 4 (.invokevirtual idx) 3 7) (i7 : q_D Z 7 (.i2l) 1 8) (i8 : q_D Z 8 (.lastore) 1 9) (i9 : q_J Z 9 (.goto 6) 12 (6) 15)
    (i12 : q_D Z 12 (.astore_n 3) 1 13) (i13 : q_D Z 13 (.iconst 1) 1 14) (i14 : q_D Z 14 (.ireturn) 1 15) (i15 : q_D Z 15 (.iconst 0) 1 16) (i16 : q_D Z 16 (.ireturn) 1 17)
    (hC : q_CP "WallLotteryLaw" idx Y 1 10) (hs : q_Sh σ) (h : x_Call G d Y [.ref 0, .int x] σ Q' QX)
    (kn : ∀ r σ', Q' r σ' → ∃ v, r = some (.int v) ∧ q_Sh σ' ∧ Q (some (.int 0)) (q_setL σ' 182 0 v.toInt64)) (kx : ∀ σ', QX σ' → q_Sh σ' ∧ Q (some (.int 1)) σ') : h_Call G (d + 1) Z [(0, 9, 12, 13)] [.ref 0, .int x, .ref 182] σ Q := by
  refine h_enter (by rw [hcls]; decide +kernel) (by rw [hm]; exact Nat.le_of_ble_eq_true rfl) ?_
  intro p e s m args below meth c lsr QW hB htab hz hRep hl hk
  have hl0 : lv_has lsr 4 (q_lv G [some (.ref 0), some (.int x), some (.ref 182), none]) := by
    have := hl
    rw [hm] at this
    exact this
  refine lv_aload_n (i := 2) hB.1 hB.2.1 i0.1 rfl (q_lv_get hl0 (i := 2) (v := .ref 182) rfl) ?_
  refine lv_iconst hB.1 hB.2.1 i1.1 (v := 0) (by decide) ?_
  refine lv_aload_n (i := 0) hB.1 hB.2.1 i2.1 rfl (q_lv_get hl0 (i := 0) (v := .ref 0) rfl) ?_
  refine lv_iload_n (i := 1) hB.1 hB.2.1 i3.1 rfl (q_lv_get hl0 (i := 1) (v := .int x) rfl) ?_
  refine q_callX (X := Z) (st := [.int 0, .ref 182]) (As := [.int x]) (a := 0) hB i4.1 (by rw [hcls]; exact hC) kd_0 (q_lt hs kd_0 (by decide)) rfl (Nat.le_of_ble_eq_true rfl) h (Nat.le_refl _) (Nat.le_refl _) hz hRep va_S.rf hl.1 ?_ ?_
  · intro r σ' H1 locs1 hQ hR1 hS1
    obtain ⟨v, rfl, hs1, hq⟩ := kn r σ' hQ
    have hat : q_At G Z (d + 1) 0 0 7 [some (.ref 0), some (.int x), some (.ref 182), none] [.int v, .int 0, .ref 182] σ' (fun r σ'' => (∀ i, r ≠ some (.retAddr i)) ∧ Q r σ'') := by
      refine q_i2l i7 ?_
      refine q2_last (i := 0) hs1 i8 kd_182 rfl (by decide) (by decide) ?_
      refine q_goto i9 ?_
      refine q_iconst i15 (v := 0) (by decide) ?_
      exact q_ret (r := some (.int 0)) ⟨i16.1, .int, hr, rfl⟩ rfl ⟨q_no_i, hq⟩
    refine hat p e _ s m args below meth c H1 locs1 (0 + 1) (0 + 6) lsr QW hB (Nat.le_refl _) (Nat.le_refl _) (q_nNT hs1) hR1 hS1 (by rw [hm]; exact hl0) ?_
    intro H' locs' cells' slots' lsr' pc' r σ'' hQ2 _ hR' hS' hc' hs' hls hret
    exact hk H' locs' cells' slots' lsr' pc' r σ'' hQ2.2 hQ2.1 hR' hS' hc' hs' hls hret
  · intro q ce σ' H1 locs1 hQ hR1 hS1 hce hcv hcl
    obtain ⟨hs1, hq⟩ := kx σ' hQ
    have hown : s.vm.findClass "WallLotteryLaw" = some m.cls := by rw [← hcls]; exact hB.2.2.2.1
    refine y_catch hown _ htab (by decide) (by decide) (hB.2.2.2.2.1 _ x_w5) (x_cast hB) hce hcv hcl ?_
    refine lv_astore_n (i := 3) (nL := 4) hB.1 hB.2.1 i12.1 rfl hl0 (by decide) rfl (fun ls' hl' => ?_)
    have hat : q_At G Z (d + 1) 0 0 13 [none, none, none, none] [] σ' (fun r σ'' => (∀ i, r ≠ some (.retAddr i)) ∧ Q r σ'') := by
      refine q_iconst i13 (v := 1) (by decide) ?_
      exact q_ret (r := some (.int 1)) ⟨i14.1, .int, hr, rfl⟩ rfl ⟨q_no_i, hq⟩
    refine hat p e _ s m args below meth c H1 locs1 (0 + 1) (0 + 6) ls' QW hB (Nat.le_refl _) (Nat.le_refl _) (q_nNT hs1) hR1 hS1 ⟨by rw [hm]; exact hl'.1, hl'.2.1, fun q hq => nomatch hq⟩ ?_
    intro H' locs' cells' slots' lsr' pc' r σ'' hQ2 _ hR' hS' hc' hs' hls hret
    exact hk H' locs' cells' slots' lsr' pc' r σ'' hQ2.2 hQ2.1 hR' hS' hc' hs' hls hret
theorem L_three {Z Y : q_M} {idx : Nat} (hcls : (m_y Z).cls = "WallLotteryLaw") (hm : m_m Z = 6) (hr : m_r Z = some .int)
    (i0 : q_D Z 0 (.aload 4) 2 2) (i2 : q_D Z 2 (.iconst 0) 1 3) (i3 : q_D Z 3 (.aload_n 0) 1 4) (i4 : q_D Z 4 (.iload_n 1) 1 5) (i5 : q_D Z 5 (.iload_n 2) 1 6) (i6 : q_D Z 6 (.iload_n 3) 1 7) (i7 : q_D Z 7 (.invokevirtual idx) 3 10) (i10 : q_D Z 10 (.i2l) 1 11) (i11 : q_D Z 11 (.lastore) 1 12) (i12 : q_J Z 12 (.goto 7) 15 (7) 19)
    (i15 : q_D Z 15 (.astore 5) 2 17) (i17 : q_D Z 17 (.iconst 1) 1 18) (i18 : q_D Z 18 (.ireturn) 1 19) (i19 : q_D Z 19 (.iconst 0) 1 20) (i20 : q_D Z 20 (.ireturn) 1 21)
    (hC : q_CP "WallLotteryLaw" idx Y 3 10) (hs : q_Sh σ) (h : x_Call G d Y [.ref 0, .int x, .int y, .int z] σ Q' QX)
    (kn : ∀ r σ', Q' r σ' → ∃ v, r = some (.int v) ∧ q_Sh σ' ∧ Q (some (.int 0)) (q_setL σ' 182 0 v.toInt64)) (kx : ∀ σ', QX σ' → q_Sh σ' ∧ Q (some (.int 1)) σ') : h_Call G (d + 1) Z [(0, 12, 15, 13)] [.ref 0, .int x, .int y, .int z, .ref 182] σ Q := by
  refine h_enter (by rw [hcls]; decide +kernel) (by rw [hm]; exact Nat.le_of_ble_eq_true rfl) ?_
  intro p e s m args below meth c lsr QW hB htab hz hRep hl hk
  have hl0 : lv_has lsr 6 (q_lv G [some (.ref 0), some (.int x), some (.int y), some (.int z), some (.ref 182), none]) := by
    have := hl
    rw [hm] at this
    exact this
  refine lv_aload (i := 4) hB.1 hB.2.1 i0.1 (q_lv_get hl0 (i := 4) (v := .ref 182) rfl) ?_
  refine lv_iconst hB.1 hB.2.1 i2.1 (v := 0) (by decide) ?_
  refine lv_aload_n (i := 0) hB.1 hB.2.1 i3.1 rfl (q_lv_get hl0 (i := 0) (v := .ref 0) rfl) ?_
  refine lv_iload_n (i := 1) hB.1 hB.2.1 i4.1 rfl (q_lv_get hl0 (i := 1) (v := .int x) rfl) ?_
  refine lv_iload_n (i := 2) hB.1 hB.2.1 i5.1 rfl (q_lv_get hl0 (i := 2) (v := .int y) rfl) ?_
  refine lv_iload_n (i := 3) hB.1 hB.2.1 i6.1 rfl (q_lv_get hl0 (i := 3) (v := .int z) rfl) ?_
  refine q_callX (X := Z) (st := [.int 0, .ref 182]) (As := [.int x, .int y, .int z]) (a := 0) hB i7.1 (by rw [hcls]; exact hC) kd_0 (q_lt hs kd_0 (by decide)) rfl (Nat.le_of_ble_eq_true rfl) h (Nat.le_refl _) (Nat.le_refl _) hz hRep va_S.rf hl.1 ?_ ?_
  · intro r σ' H1 locs1 hQ hR1 hS1
    obtain ⟨v, rfl, hs1, hq⟩ := kn r σ' hQ
    have hat : q_At G Z (d + 1) 0 0 10 [some (.ref 0), some (.int x), some (.int y), some (.int z), some (.ref 182), none] [.int v, .int 0, .ref 182] σ' (fun r σ'' => (∀ i, r ≠ some (.retAddr i)) ∧ Q r σ'') := by
      refine q_i2l i10 ?_
      refine q2_last (i := 0) hs1 i11 kd_182 rfl (by decide) (by decide) ?_
      refine q_goto i12 ?_
      refine q_iconst i19 (v := 0) (by decide) ?_
      exact q_ret (r := some (.int 0)) ⟨i20.1, .int, hr, rfl⟩ rfl ⟨q_no_i, hq⟩
    refine hat p e _ s m args below meth c H1 locs1 (0 + 1) (0 + 6) lsr QW hB (Nat.le_refl _) (Nat.le_refl _) (q_nNT hs1) hR1 hS1 (by rw [hm]; exact hl0) ?_
    intro H' locs' cells' slots' lsr' pc' r σ'' hQ2 _ hR' hS' hc' hs' hls hret
    exact hk H' locs' cells' slots' lsr' pc' r σ'' hQ2.2 hQ2.1 hR' hS' hc' hs' hls hret
  · intro q ce σ' H1 locs1 hQ hR1 hS1 hce hcv hcl
    obtain ⟨hs1, hq⟩ := kx σ' hQ
    have hown : s.vm.findClass "WallLotteryLaw" = some m.cls := by rw [← hcls]; exact hB.2.2.2.1
    refine y_catch hown _ htab (by decide) (by decide) (hB.2.2.2.2.1 _ x_w5) (x_cast hB) hce hcv hcl ?_
    refine lv_astore (i := 5) (nL := 6) hB.1 hB.2.1 i15.1 hl0 (by decide) rfl (fun ls' hl' => ?_)
    have hat : q_At G Z (d + 1) 0 0 17 [none, none, none, none, none, none] [] σ' (fun r σ'' => (∀ i, r ≠ some (.retAddr i)) ∧ Q r σ'') := by
      refine q_iconst i17 (v := 1) (by decide) ?_
      exact q_ret (r := some (.int 1)) ⟨i18.1, .int, hr, rfl⟩ rfl ⟨q_no_i, hq⟩
    refine hat p e _ s m args below meth c H1 locs1 (0 + 1) (0 + 6) ls' QW hB (Nat.le_refl _) (Nat.le_refl _) (q_nNT hs1) hR1 hS1 ⟨by rw [hm]; exact hl'.1, hl'.2.1, fun q hq => nomatch hq⟩ ?_
    intro H' locs' cells' slots' lsr' pc' r σ'' hQ2 _ hR' hS' hc' hs' hls hret
    exact hk H' locs' cells' slots' lsr' pc' r σ'' hQ2.2 hQ2.1 hR' hS' hc' hs' hls hret
end LHELP
