section WQ2
variable {G : q_G} {d : Nat} {σ σ' : q_S} {Q : Option Value → q_S → Prop} {t p : Nat} {D : Nat → Nat} {P : Nat → List Int32} {N : q_nm} {hm : Nat → Nat} {L L' : Nat → Int32} {un un' : List q_lf} {mk mk' : Nat → Option (q_lf × q_tl)} {tl tl' : q_tl} {dy : q_dy} {tp : List Nat} {x y z c : Int32}
theorem toInt0 {n : Nat} {k : Nat} (h : n < 2 ^ 31) : ((nI n).toInt = (k : Int)) ↔ n = k := by
  rw [nI_toInt h]
  omega
theorem sub2 {n : Nat} (h : 2 ≤ n) : nI n - 2 = nI (n - 2) := pk_sub h
theorem W_please_ok (hs : q_Sh σ) (hw : WJ D P N hm L un mk tl dy tp) (hJ : CJ σ t p D P N L un mk tl dy tp) (hq : ∀ σ', Fr lo_ lo_ σ σ' → CJ σ' t p D P N L un mk tl dy tp → Q (some (.int (a_please D hm P x))) σ') : q_Call G (d + 13) 0 0 X_W_please [.ref 0, .int x] σ Q := by
  have h6 := hw.1.F6
  have hl := wys_len hw.1
  refine q_cii (Pp := fun v σ' => v = a_please D hm P x ∧ Fr lo_ lo_ σ σ' ∧ CJ σ' t p D P N L un mk tl dy tp) (by decide +kernel) (Nat.le_of_ble_eq_true rfl) (fun Q hq => ?_) (fun v σ' h => by rw [h.1]; exact hq σ' h.2.1 h.2.2)
  obtain ⟨b, hb⟩ := bst_ne (bt := plB D hm P) (ws := wys D) (fun _ => rfl) (wys D).length hl.2 (Nat.le_refl _)
  have hbo := wys_ok (bst_mem _ hb)
  have e1F : (1 : Int32) + nI (D 1) = nI (1 + D 1) := nI_add 1 (D 1)
  have main : ∀ n, n ≤ 1 + D 1 → x = nI n → q_Call G (d + 12) 0 0 X_Wy_learn [.ref 5, .ref t] σ (q_rv (fun σ7 => (∃ t10, q_R σ7 0 12 = some t10 ∧ q_isTw t10 ∧ q_Call G (d + 12) 0 0 X_Wy_firstPleasing [.ref 5, .ref t10, .ref 16] σ7 (q_ri (fun x14 σ12 => ((x.toInt = 0 → q_Call G (d + 12) 0 0 X_Wy_contentIn [.ref 5, .int x14] σ12 (q_ri (fun x19 σ17 => Q (some (.int x19)) σ17))) ∧ (x.toInt = 1 → (∃ t22, q_R σ12 0 12 = some t22 ∧ q_isTw t22 ∧ q_Call G (d + 12) 0 0 X_Wy_swapsTo [.ref 5, .int x14, .ref t22, .ref 16] σ12 (q_ri (fun x26 σ24 => Q (some (.int x26)) σ24)))) ∧ ((¬ x.toInt = 0 ∧ ¬ x.toInt = 1) → q_Call G (d + 12) 0 0 X_Wy_houseOf [.ref 5, .int x14, .int (x - 2)] σ12 (q_ri (fun x31 σ29 => Q (some (.int x31)) σ29))))))))) := by
    intro n hn hx
    subst hx
    have e0 : a_please D hm P (nI n) = if nI n = 0 then nI (ncN D b P (D 1)) else if nI n = 1 then nI (swc hm b (D 1) (D 1)) else nI (b (nI n - 2).toNatClampNeg) := by
      rw [a_please, if_neg, hb]
      unfold inN
      rw [if_neg (nI_pos (by omega)), e1F, if_neg (nI_nlt hn (by omega))]
      decide
    refine Wy_learn_ok (d := d) hJ.1.1.2.1 hs hw.1 hw.2.1 hJ.1.2.2.1 hJ.2 (fun σ1 f1 g1 g2 => ⟨f1.sh hs, rfl, ?_⟩)
    have hs1 := f1.sh hs
    have hJ1 := hJ.ln hw f1 g1 g2
    refine ⟨t, hJ1.1.1.1, hJ1.1.1.2.1, Wy_please_ok (d := d + 8) hJ1.1.1.2.1 (by decide +kernel) hs1 hw.1 hJ1.1.2.2.1.1 (hJ1.1.hom hw) hw.2.2.2.2.1.2.1 g2 (fun v hv => ⟨hs1, _, rfl, ?_⟩)⟩
    rcases hv with ⟨o, _⟩ | ⟨j, b', c1, c2, rfl⟩
    · rw [hb] at o; exact absurd o (by simp)
    · rw [hb] at c2
      have c2 := Option.some.inj c2
      subst c2
      refine ⟨fun k => ?_, fun k => ⟨t, hJ1.1.1.1, hJ1.1.1.2.1, ?_⟩, fun k => ?_⟩
      · rw [show (0 : Int) = ((0 : Nat) : Int) from rfl, toInt0 (by omega)] at k
        subst k
        rw [if_pos nI_0] at e0
        exact Wy_content_ok (d := d + 11) hs1 g2 hl.1 c1 ⟨hs1, _, rfl, hq _ _ ⟨by rw [e0, nc_N], SLn_L f1, hJ1⟩⟩
      · rw [show (1 : Int) = ((1 : Nat) : Int) from rfl, toInt0 (by omega)] at k
        subst k
        rw [if_neg (by decide), if_pos (show nI 1 = 1 from rfl)] at e0
        exact Wy_swaps_ok (d := d + 9) hJ1.1.1.2.1 (by decide +kernel) hs1 hw.1 hJ1.1.2.2.1.1 (hJ1.1.hom hw) hw.2.2.2.2.1.2.1 g2 hl.1 c1 hbo.1 ⟨hs1, _, rfl, hq _ _ ⟨e0.symm, SLn_L f1, hJ1⟩⟩
      · rw [show (0 : Int) = ((0 : Nat) : Int) from rfl, show (1 : Int) = ((1 : Nat) : Int) from rfl, toInt0 (by omega), toInt0 (by omega)] at k
        have q0 : ¬ nI n = 0 := nI_ne0 (by omega) (by omega)
        have q1 : ¬ nI n = 1 := by rw [show (1 : Int32) = nI 1 from rfl, nI_eq (by omega) (by decide)]; omega
        rw [if_neg q0, if_neg q1, sub2 (by omega), nI_clamp (by omega)] at e0
        rw [sub2 (by omega)]
        exact Wy_house_ok (d := d + 11) hs1 hw.1 g2 hl.1 c1 hbo.1 (by omega) ⟨hs1, _, rfl, hq _ _ ⟨e0.symm, SLn_L f1, hJ1⟩⟩
  have no : inN 0 x (1 + nI (D 1)) = 0 → Q (some (.int (-1))) σ := fun e => hq _ _ ⟨by rw [a_please, if_pos e], Fr.rf, hJ⟩
  refine v_W_please_0 hs ⟨fun k => ⟨t, hJ.1.1.1, hJ.1.1.2.1, main 0 (by omega) k⟩, fun k => ⟨fun k2 => ⟨t, hJ.1.1.1, hJ.1.1.2.1, main 1 (by omega) k2⟩, fun k2 => ⟨fun k3 => no ?_, fun k3 => ?_⟩⟩⟩
  · unfold inN
    by_cases c0 : x < 0
    · rw [if_pos c0]
    · obtain ⟨n, hn, rfl⟩ := nI_of c0
      rw [show (2 : Int32) = nI 2 from rfl, nI_ltI hn (by decide)] at k3
      rw [← nI_0, nI_eq hn (by decide)] at k
      rw [show (1 : Int32) = nI 1 from rfl, nI_eq hn (by decide)] at k2
      omega
  · have c0 : ¬ x < 0 := fun h => k3 (Int32.lt_trans h (by decide))
    obtain ⟨n, hn, rfl⟩ := nI_of c0
    rw [show (2 : Int32) = nI 2 from rfl, nI_ltI hn (by decide)] at k3
    refine W_isFamily_ok hs hJ.1 ⟨hs, _, rfl, fun k4 => ⟨t, hJ.1.1.1, hJ.1.1.2.1, main n ?_ rfl⟩, fun k4 => no ?_⟩
    · rw [if01] at k4
      obtain ⟨f, a1, a2⟩ := isN_s (by omega) k4
      rw [sub2 (by omega), nI_eq (by omega) (by omega)] at a2
      omega
    · rw [if01] at k4
      have : D 1 ≤ n - 2 := Nat.le_of_not_lt (fun h => by
        have := isN_y (F := D 1) (by omega) h
        rw [← sub2 (by omega)] at this
        rw [this] at k4
        exact absurd k4 (by decide))
      unfold inN
      rw [if_neg c0, e1F, if_pos (nI_lt (by omega) hn)]
theorem M_please_ok (hs : q_Sh σ) (hw : WJ D P N hm L un mk tl dy tp) (hJ : MJ σ D P N L un mk tl dy tp) (hq : ∀ σ', Fr hi_ hi_ σ σ' → MJ σ' D P N L un mk tl dy tp → Q (some (.int (a_please D hm P x))) σ') : q_Call G (d + 9) 0 0 X_M_please [.ref 159, .int x] σ Q := by
  have h6 := hw.1.F6
  have hl := wys_len hw.1
  refine q_cii (Pp := fun v σ' => v = a_please D hm P x ∧ Fr hi_ hi_ σ σ' ∧ MJ σ' D P N L un mk tl dy tp) (by decide +kernel) (Nat.le_of_ble_eq_true rfl) (fun Q hq => ?_) (fun v σ' h => by rw [h.1]; exact hq σ' h.2.1 h.2.2)
  have hs1 : q_Sh (Th σ) := Th_fr.sh hs
  have hJ1 : MJ (Th σ) D P N L un mk tl dy tp := hJ.th hw
  obtain ⟨b0, hb0⟩ := bst_ne (bt := plB D hm P) (ws := wys D) (fun _ => rfl) (wys D).length hl.2 (Nat.le_refl _)
  refine v_M_please_0 hs ?_
  rw [hJ1.1.1.F]
  refine M_within_ok hs1 ⟨hs1, _, rfl, fun k => ?_, fun k => hq _ _ ⟨by rw [a_please, if_pos k], Th_fr, hJ1⟩⟩
  obtain ⟨n, _, hn, rfl⟩ := inN_s (lo := 0) (hi := 1 + D 1) (by omega) (by omega) (by rw [← nI_add]; exact k)
  have e0 : a_please D hm P (nI n) = if nI n = 0 then nI (ncN D b0 P (D 1)) else if nI n = 1 then nI (swc hm b0 (D 1) (D 1)) else nI (b0 (nI n - 2).toNatClampNeg) := by rw [a_please, if_neg k, hb0]
  refine M_findWays_ok (d := d) hs1 hw.1 hJ1.1.1 (fun σ1 f1 g1 => ⟨f1.sh hs1, rfl, ?_⟩)
  have hs2 := f1.sh hs1
  have hJ2 := hJ1.qm hw (SMl_q f1)
  have sl : ∀ v, swc hm v (D 1) (D 1) < 2 ^ 31 := fun v => by have := swc_le (hm := hm) (w := v) (F := D 1) (D 1); omega
  have cl : ∀ v, ncN D v P (D 1) < 2 ^ 31 := fun v => by have := ncN_le (D := D) (hm := v) (P := P) (D 1); omega
  refine up_ind (R := fun k => ∀ σ2, Fr qW noL σ1 σ2 → (bst (plB D hm P) (wys D) k = none → q_I σ2 159 33 = -1) → (∀ b, bst (plB D hm P) (wys D) k = some b → q_I σ2 159 33 = nI (ncN D b P (D 1)) ∧ q_I σ2 159 34 = nI (swc hm b (D 1) (D 1)) ∧ ∀ f, f < D 1 → q_I σ2 180 f = nI (b f)) → q_At G X_M_please (d + 9) 0 0 32 [some (.ref 159), some (.int (nI n)), some (.int (nI k)), none, none] [] σ2 Q) (n := (wys D).length) (fun σ2 f2 u1 u2 => ?_) (fun k hk ih σ2 f2 u1 u2 => ?_) 0 (Nat.zero_le _) (q_setI σ1 159 33 (-1)) (Fr.setI (by unfold qW; omega)) (fun _ => q_I_eq) (fun b e => by rw [bst] at e; exact absurd e (by simp))
  · have eW := (g1.qw f2).1
    obtain ⟨v1, v2, v3⟩ := u2 b0 hb0
    have fin : ∀ v, v = a_please D hm P (nI n) → Q (some (.int v)) σ2 := fun v e => hq _ _ ⟨e, Th_fr.tr ((qM_H (SMl_q f1)).tr (qM_H (qW_qM f2))), hJ2.qm hw (qW_qM f2)⟩
    refine v_M_please_32 (f2.sh hs2) ⟨fun _ => ⟨fun k0 => ⟨fun k1 => ?_, fun k1 => fin _ (by rw [e0, if_neg k0, if_pos k1]; exact v2)⟩, fun k0 => fin _ (by rw [e0, if_pos k0]; exact v1)⟩, fun c => absurd (by rw [eW]; exact Int32.le_refl _) c⟩
    rw [if_neg k0, if_neg k1] at e0
    rw [← nI_0, nI_eq (by omega) (by omega)] at k0
    rw [show (1 : Int32) = nI 1 from rfl, nI_eq (by omega) (by omega)] at k1
    rw [sub2 (by omega), nI_clamp (by omega)] at e0
    exact ⟨n - 2, sub2 (by omega), by omega, fin _ (by rw [e0]; exact v3 _ (by omega))⟩
  · have eW := (g1.qw f2).1
    obtain ⟨w, hwk⟩ := get_some hk
    have hwo := wys_ok (List.mem_of_getElem? hwk)
    have eb := bst_s (bt := plB D hm P) hwk
    refine v_M_please_32 (f2.sh hs2) ⟨fun c => by rw [eW] at c; exact ge_not c hk (by omega), fun _ => ?_⟩
    refine M_laysWay_ok (d := d + 7) (f2.sh hs2) hw.1 (hJ2.qm hw (qW_qM f2)).1.1 (g1.qw f2) hwk (fun σ3 f3 g3 => ⟨f3.sh (f2.sh hs2), rfl, ?_⟩)
    have f4 := f2.tr (SMo_q f3)
    refine M_content_ok (b := 1804) (d := d + 5) (f4.sh hs2) hw.1 hw.2.1 (hJ2.qm hw (qW_qM f4)).1 g3 (by decide) (fun σ4 f5 => ⟨f5.sh (f4.sh hs2), _, rfl, ?_⟩)
    have f6 := f4.tr (Sm_q f5)
    have hJ6 := hJ2.qm hw (qW_qM f6)
    have g6 : HB σ4 1804 D w := g3.sm f5
    refine M_swaps_ok (d := d + 6) (f6.sh hs2) hw.1 hJ6.1.1 (hJ6.hb hw) g6 hwo.2 ⟨f6.sh hs2, _, rfl, ?_⟩
    have k33 : ∀ i, q_I σ4 159 i = q_I σ2 159 i := fun i => by rw [f5.2.2.1 _ _ (fun z => by unfold Sm at z; omega), f3.2.2.1 _ _ (fun z => by unfold SMo at z; omega)]
    have k180 : ∀ i, q_I σ4 180 i = q_I σ2 180 i := fun i => by rw [f5.2.2.1 _ _ (fun z => by unfold Sm at z; omega), f3.2.2.1 _ _ (fun z => by unfold SMo at z; omega)]
    have take : plB D hm P w (bst (plB D hm P) (wys D) k) = true → q_Call G (d + 8) 0 0 X_M_takesWay [.ref 159, .int (ncont D w P (D 1)), .int (nI (swc hm w (D 1) (D 1)))] σ4 (q_rv (fun σ26 => q_At G X_M_please (d + 9) 0 0 32 [some (.ref 159), some (.int (nI n)), some (.int (nI (k + 1))), none, none] [] σ26 Q)) := fun e => by
      rw [e] at eb
      refine M_takes_ok (d := d + 7) (f6.sh hs2) hw.1 hJ6.1.1 g6 (fun σ5 f7 w1 w2 w3 => ⟨f7.sh (f6.sh hs2), rfl, ih σ5 (f6.tr (STk_q f7)) (fun o => by rw [eb] at o; exact absurd o (by simp)) (fun b ob => ?_)⟩)
      rw [eb] at ob
      have ob := Option.some.inj ob
      subst ob
      exact ⟨by rw [w1, nc_N], w2, w3⟩
    have keep : plB D hm P w (bst (plB D hm P) (wys D) k) = false → q_At G X_M_please (d + 9) 0 0 32 [some (.ref 159), some (.int (nI n)), some (.int (nI (k + 1))), none, none] [] σ4 Q := fun e => by
      rw [e] at eb
      refine ih σ4 f6 (fun o => by rw [eb] at o; rw [k33]; exact u1 o) (fun b ob => by rw [eb] at ob; rw [k33, k33]; exact ⟨(u2 b ob).1, (u2 b ob).2.1, fun f hf => by rw [k180]; exact (u2 b ob).2.2 f hf⟩)
    dsimp only
    rw [k33, k33, nI_1]
    cases ho : bst (plB D hm P) (wys D) k with
    | none =>
      rw [u1 ho, nc_N]
      refine ⟨fun _ => by rw [← nc_N]; exact take (by rw [ho]; rfl), fun c => absurd (Int32.lt_of_lt_of_le (by decide : (-1 : Int32) < 0) (nI_pos' (cl w))) c⟩
    | some b =>
      obtain ⟨v1, v2, v3⟩ := u2 b ho
      rw [v1, v2, nc_N]
      refine ⟨fun c => ?_, fun c => ⟨fun c2 => ?_, fun c2 => ⟨fun c3 => ?_, fun c3 => ?_⟩⟩⟩
      · rw [nI_ltI (cl b) (cl w)] at c
        rw [← nc_N]
        refine take ?_
        rw [ho]; simp [plB]; omega
      · rw [nI_ltI (cl b) (cl w)] at c
        rw [nI_eq (cl w) (cl b)] at c2
        refine keep ?_
        rw [ho]; simp [plB]; omega
      · rw [nI_ltI (cl b) (cl w)] at c
        rw [nI_eq (cl w) (cl b)] at c2
        rw [nI_leI (sl b) (sl w)] at c3
        refine keep ?_
        rw [ho]; simp [plB]; omega
      · rw [nI_ltI (cl b) (cl w)] at c
        rw [nI_eq (cl w) (cl b)] at c2
        rw [nI_leI (sl b) (sl w)] at c3
        rw [← nc_N]
        refine take ?_
        rw [ho]; simp [plB]; omega
theorem M_mend_ok (hs : q_Sh σ) (hw : WJ D P N hm L un mk tl dy tp) (hJ : MJ σ D P N L un mk tl dy tp) (hq : ∀ σ', Fr hi_ hi_ σ σ' → MJ σ' D P N L un mk tl dy tp → Q (some (.int (a_mend D hm x))) σ') : q_Call G (d + 9) 0 0 X_M_mend [.ref 159, .int x] σ Q := by
  have h6 := hw.1.F6
  have hl := wys_len hw.1
  refine q_cii (Pp := fun v σ' => v = a_mend D hm x ∧ Fr hi_ hi_ σ σ' ∧ MJ σ' D P N L un mk tl dy tp) (by decide +kernel) (Nat.le_of_ble_eq_true rfl) (fun Q hq => ?_) (fun v σ' h => by rw [h.1]; exact hq σ' h.2.1 h.2.2)
  have hs1 : q_Sh (Th σ) := Th_fr.sh hs
  have hJ1 : MJ (Th σ) D P N L un mk tl dy tp := hJ.th hw
  have sl : ∀ v, swc hm v (D 1) (D 1) < 2 ^ 31 := fun v => by have := swc_le (hm := hm) (w := v) (F := D 1) (D 1); omega
  have main : ¬ (¬ x = -1 ∧ isN (D 1) x = 0) → q_Call G (d + 8) 0 0 X_M_findWays [.ref 159] (Th σ) (q_rv (fun σ4 => q_At G X_M_mend (d + 9) 0 0 32 [some (.ref 159), some (.int x), some (.int 0), none] [] (q_setI σ4 159 33 (-1)) Q)) := by
    intro hn
    have e0 : a_mend D hm x = match bst (mdB D hm) (wys D) (wys D).length with
      | none => -2
      | some b => if x = -1 then nI (swc hm b (D 1) (D 1)) else nI (b x.toNatClampNeg) := by
        first
          | (rw [a_mend, if_neg hn]; done)
          | (rw [a_mend, if_neg hn]; cases bst (mdB D hm) (wys D) (wys D).length <;> rfl)
    refine M_findWays_ok (d := d) hs1 hw.1 hJ1.1.1 (fun σ1 f1 g1 => ⟨f1.sh hs1, rfl, ?_⟩)
    have hs2 := f1.sh hs1
    have hJ2 := hJ1.qm hw (SMl_q f1)
    refine up_ind (R := fun k => ∀ σ2, Fr qW noL σ1 σ2 → (bst (mdB D hm) (wys D) k = none → q_I σ2 159 33 = -1) → (∀ b, bst (mdB D hm) (wys D) k = some b → q_I σ2 159 33 = nI (swc hm b (D 1) (D 1)) ∧ ∀ f, f < D 1 → q_I σ2 180 f = nI (b f)) → q_At G X_M_mend (d + 9) 0 0 32 [some (.ref 159), some (.int x), some (.int (nI k)), none] [] σ2 Q) (n := (wys D).length) (fun σ2 f2 u1 u2 => ?_) (fun k hk ih σ2 f2 u1 u2 => ?_) 0 (Nat.zero_le _) (q_setI σ1 159 33 (-1)) (Fr.setI (by unfold qW; omega)) (fun _ => q_I_eq) (fun b e => by rw [bst] at e; exact absurd e (by simp))
    · have eW := (g1.qw f2).1
      have fin : ∀ v, v = a_mend D hm x → Q (some (.int v)) σ2 := fun v e => hq _ _ ⟨e, Th_fr.tr ((qM_H (SMl_q f1)).tr (qM_H (qW_qM f2))), hJ2.qm hw (qW_qM f2)⟩
      refine v_M_mend_32 (f2.sh hs2) ⟨fun _ => ⟨fun k0 => ?_, fun k0 => ?_⟩, fun c => absurd (by rw [eW]; exact Int32.le_refl _) c⟩
      · cases ho : bst (mdB D hm) (wys D) (wys D).length with
        | none => rw [u1 ho] at k0; exact absurd k0 (by decide)
        | some b =>
          rw [ho] at e0
          obtain ⟨v1, v2⟩ := u2 b ho
          refine ⟨fun k1 => ?_, fun k1 => fin _ ?_⟩
          · have nx : ¬ x = -1 := fun h => by rw [h] at k1; exact absurd k1 (by decide)
            obtain ⟨f, a1, rfl⟩ := isN_s (F := D 1) (by omega) (fun h => hn ⟨nx, h⟩)
            simp only [if_neg nx, nI_clamp (show f < 2 ^ 31 by omega)] at e0
            exact ⟨f, rfl, by omega, fin _ (by rw [e0]; exact v2 f a1)⟩
          · have nx : x = -1 := Classical.byContradiction (fun h => by
              obtain ⟨f, a1, rfl⟩ := isN_s (F := D 1) (by omega) (fun h2 => hn ⟨h, h2⟩)
              exact k1 (nI_pos' (by omega)))
            simp only [if_pos nx] at e0
            rw [e0]; exact v1
      · cases ho : bst (mdB D hm) (wys D) (wys D).length with
        | none => rw [ho] at e0; exact fin _ e0.symm
        | some b => rw [(u2 b ho).1] at k0; exact absurd (nI_pos' (sl b)) k0
    · have eW := (g1.qw f2).1
      obtain ⟨w, hwk⟩ := get_some hk
      have hwo := wys_ok (List.mem_of_getElem? hwk)
      have eb := bst_s (bt := mdB D hm) hwk
      refine v_M_mend_32 (f2.sh hs2) ⟨fun c => by rw [eW] at c; exact ge_not c hk (by omega), fun _ => ?_⟩
      refine M_laysWay_ok (d := d + 7) (f2.sh hs2) hw.1 (hJ2.qm hw (qW_qM f2)).1.1 (g1.qw f2) hwk (fun σ3 f3 g3 => ⟨f3.sh (f2.sh hs2), rfl, ?_⟩)
      have f4 := f2.tr (SMo_q f3)
      have hJ4 := hJ2.qm hw (qW_qM f4)
      have k33 : ∀ i, q_I σ3 159 i = q_I σ2 159 i := fun i => f3.2.2.1 _ _ (fun z => by unfold SMo at z; omega)
      have k180 : ∀ i, q_I σ3 180 i = q_I σ2 180 i := fun i => f3.2.2.1 _ _ (fun z => by unfold SMo at z; omega)
      have take : mdB D hm w (bst (mdB D hm) (wys D) k) = true → q_Call G (d + 8) 0 0 X_M_takesWay [.ref 159, .int (nI (swc hm w (D 1) (D 1))), .int (nI (swc hm w (D 1) (D 1)))] σ3 (q_rv (fun σ26 => q_At G X_M_mend (d + 9) 0 0 32 [some (.ref 159), some (.int x), some (.int (nI (k + 1))), none] [] σ26 Q)) := fun e => by
        rw [e] at eb
        refine M_takes_ok (d := d + 7) (f4.sh hs2) hw.1 hJ4.1.1 g3 (fun σ5 f7 w1 w2 w3 => ⟨f7.sh (f4.sh hs2), rfl, ih σ5 (f4.tr (STk_q f7)) (fun o => by rw [eb] at o; exact absurd o (by simp)) (fun b ob => ?_)⟩)
        rw [eb] at ob
        have ob := Option.some.inj ob
        subst ob
        exact ⟨w1, w3⟩
      have keep : mdB D hm w (bst (mdB D hm) (wys D) k) = false → q_At G X_M_mend (d + 9) 0 0 32 [some (.ref 159), some (.int x), some (.int (nI (k + 1))), none] [] σ3 Q := fun e => by
        rw [e] at eb
        refine ih σ3 f4 (fun o => by rw [eb] at o; rw [k33]; exact u1 o) (fun b ob => by rw [eb] at ob; rw [k33]; exact ⟨(u2 b ob).1, fun f hf => by rw [k180]; exact (u2 b ob).2 f hf⟩)
      refine M_broken_ok (b := 1804) (d := d + 7) (f4.sh hs2) hw.1 hJ4.1.1 g3 (by decide) ⟨f4.sh hs2, _, rfl, fun c => ?_, fun c => ?_⟩
      · rw [nI_1]
        exact keep (by simp [mdB, c])
      · refine M_swaps_ok (d := d + 6) (f4.sh hs2) hw.1 hJ4.1.1 (hJ4.hb hw) g3 hwo.2 ⟨f4.sh hs2, _, rfl, ?_⟩
        dsimp only
        rw [k33, nI_1]
        refine ⟨fun c1 => absurd c1 (nI_pos (sl w)), fun _ => ?_⟩
        cases ho : bst (mdB D hm) (wys D) k with
        | none =>
          rw [u1 ho]
          exact ⟨fun _ => take (by rw [ho]; simp [mdB, c]), fun c2 => absurd (by decide) c2⟩
        | some b =>
          rw [(u2 b ho).1]
          refine ⟨fun c2 => absurd c2 (nI_pos (sl b)), fun _ => ⟨fun c3 => ?_, fun c3 => ?_⟩⟩
          · rw [nI_leI (sl b) (sl w)] at c3
            exact keep (by rw [ho]; simp [mdB, c]; omega)
          · rw [nI_leI (sl b) (sl w)] at c3
            exact take (by rw [ho]; simp [mdB, c]; omega)
  refine v_M_mend_0 hs ⟨fun k => main (fun h => h.1 k), fun k => M_isFamily_ok hs1 hJ1.1.1 ⟨hs1, _, rfl, fun k2 => main (fun h => k2 h.2), fun k2 => hq _ _ ⟨by rw [a_mend, if_pos ⟨k, k2⟩], Th_fr, hJ1⟩⟩⟩
theorem M_quiet_ok (hs : q_Sh σ) (hw : WJ D P N hm L un mk tl dy tp) (hJ : MJ σ D P N L un mk tl dy tp) (hq : ∀ σ', Fr hi_ hi_ σ σ' → MJ σ' D P N L un mk tl dy tp → Q (some (.int (a_quiet D P x))) σ') : q_Call G (d + 9) 0 0 X_M_quiet [.ref 159, .int x] σ Q := by
  have h6 := hw.1.F6
  have hl := wys_len hw.1
  refine q_cii (Pp := fun v σ' => v = a_quiet D P x ∧ Fr hi_ hi_ σ σ' ∧ MJ σ' D P N L un mk tl dy tp) (by decide +kernel) (Nat.le_of_ble_eq_true rfl) (fun Q hq => ?_) (fun v σ' h => by rw [h.1]; exact hq σ' h.2.1 h.2.2)
  have hs1 : q_Sh (Th σ) := Th_fr.sh hs
  have hJ1 : MJ (Th σ) D P N L un mk tl dy tp := hJ.th hw
  obtain ⟨b0, hb0⟩ := bst_ne (bt := quB D P) (ws := wys D) (fun _ => rfl) (wys D).length hl.2 (Nat.le_refl _)
  have ql : ∀ v, v ∈ wys D → qsN D v P (D 1) < 2 ^ 31 := fun v hv => by have := qsN_le (P := P) hw.1 (wys_ok hv).1 (D 1) (Nat.le_refl _); omega
  have main : ¬ (¬ x = -1 ∧ isN (D 1) x = 0) → q_Call G (d + 8) 0 0 X_M_findWays [.ref 159] (Th σ) (q_rv (fun σ4 => q_At G X_M_quiet (d + 9) 0 0 32 [some (.ref 159), some (.int x), some (.int 0), none, none] [] (q_setI σ4 159 33 (-1)) Q)) := by
    intro hn
    have e0 : a_quiet D P x = if x = -1 then nI (qsN D b0 P (D 1)) else nI (b0 x.toNatClampNeg) := by rw [a_quiet, if_neg hn, hb0]
    refine M_findWays_ok (d := d) hs1 hw.1 hJ1.1.1 (fun σ1 f1 g1 => ⟨f1.sh hs1, rfl, ?_⟩)
    have hs2 := f1.sh hs1
    have hJ2 := hJ1.qm hw (SMl_q f1)
    refine up_ind (R := fun k => ∀ σ2, Fr qW noL σ1 σ2 → (bst (quB D P) (wys D) k = none → q_I σ2 159 33 = -1) → (∀ b, bst (quB D P) (wys D) k = some b → q_I σ2 159 33 = nI (qsN D b P (D 1)) ∧ ∀ f, f < D 1 → q_I σ2 180 f = nI (b f)) → q_At G X_M_quiet (d + 9) 0 0 32 [some (.ref 159), some (.int x), some (.int (nI k)), none, none] [] σ2 Q) (n := (wys D).length) (fun σ2 f2 u1 u2 => ?_) (fun k hk ih σ2 f2 u1 u2 => ?_) 0 (Nat.zero_le _) (q_setI σ1 159 33 (-1)) (Fr.setI (by unfold qW; omega)) (fun _ => q_I_eq) (fun b e => by rw [bst] at e; exact absurd e (by simp))
    · have eW := (g1.qw f2).1
      have fin : ∀ v, v = a_quiet D P x → Q (some (.int v)) σ2 := fun v e => hq _ _ ⟨e, Th_fr.tr ((qM_H (SMl_q f1)).tr (qM_H (qW_qM f2))), hJ2.qm hw (qW_qM f2)⟩
      obtain ⟨v1, v2⟩ := u2 b0 hb0
      refine v_M_quiet_32 (f2.sh hs2) ⟨fun _ => ⟨fun k1 => ?_, fun k1 => fin _ ?_⟩, fun c => absurd (by rw [eW]; exact Int32.le_refl _) c⟩
      · have nx : ¬ x = -1 := fun h => by rw [h] at k1; exact absurd k1 (by decide)
        obtain ⟨f, a1, rfl⟩ := isN_s (F := D 1) (by omega) (fun h => hn ⟨nx, h⟩)
        rw [if_neg nx, nI_clamp (by omega)] at e0
        exact ⟨f, rfl, by omega, fin _ (by rw [e0]; exact v2 f a1)⟩
      · have nx : x = -1 := Classical.byContradiction (fun h => by
          obtain ⟨f, a1, rfl⟩ := isN_s (F := D 1) (by omega) (fun h2 => hn ⟨h, h2⟩)
          exact k1 (nI_pos' (by omega)))
        rw [if_pos nx] at e0
        rw [e0]; exact v1
    · have eW := (g1.qw f2).1
      obtain ⟨w, hwk⟩ := get_some hk
      have hwm := List.mem_of_getElem? hwk
      have hwo := wys_ok hwm
      have eb := bst_s (bt := quB D P) hwk
      refine v_M_quiet_32 (f2.sh hs2) ⟨fun c => by rw [eW] at c; exact ge_not c hk (by omega), fun _ => ?_⟩
      refine M_laysWay_ok (d := d + 7) (f2.sh hs2) hw.1 (hJ2.qm hw (qW_qM f2)).1.1 (g1.qw f2) hwk (fun σ3 f3 g3 => ⟨f3.sh (f2.sh hs2), rfl, ?_⟩)
      have f4 := f2.tr (SMo_q f3)
      have hJ4 := hJ2.qm hw (qW_qM f4)
      have k33 : ∀ i, q_I σ3 159 i = q_I σ2 159 i := fun i => f3.2.2.1 _ _ (fun z => by unfold SMo at z; omega)
      have k180 : ∀ i, q_I σ3 180 i = q_I σ2 180 i := fun i => f3.2.2.1 _ _ (fun z => by unfold SMo at z; omega)
      have take : quB D P w (bst (quB D P) (wys D) k) = true → q_Call G (d + 8) 0 0 X_M_takesWay [.ref 159, .int (qsm D w P (D 1)), .int 0] σ3 (q_rv (fun σ26 => q_At G X_M_quiet (d + 9) 0 0 32 [some (.ref 159), some (.int x), some (.int (nI (k + 1))), none, none] [] σ26 Q)) := fun e => by
        rw [e] at eb
        refine M_takes_ok (d := d + 7) (f4.sh hs2) hw.1 hJ4.1.1 g3 (fun σ5 f7 w1 w2 w3 => ⟨f7.sh (f4.sh hs2), rfl, ih σ5 (f4.tr (STk_q f7)) (fun o => by rw [eb] at o; exact absurd o (by simp)) (fun b ob => ?_)⟩)
        rw [eb] at ob
        have ob := Option.some.inj ob
        subst ob
        exact ⟨by rw [w1, qs_N], w3⟩
      have keep : quB D P w (bst (quB D P) (wys D) k) = false → q_At G X_M_quiet (d + 9) 0 0 32 [some (.ref 159), some (.int x), some (.int (nI (k + 1))), none, none] [] σ3 Q := fun e => by
        rw [e] at eb
        refine ih σ3 f4 (fun o => by rw [eb] at o; rw [k33]; exact u1 o) (fun b ob => by rw [eb] at ob; rw [k33]; exact ⟨(u2 b ob).1, fun f hf => by rw [k180]; exact (u2 b ob).2 f hf⟩)
      refine up_ind (R := fun j => q_At G X_M_quiet (d + 9) 0 0 50 [some (.ref 159), some (.int x), some (.int (nI k)), some (.int (qsm D w P j)), some (.int (nI j))] [] σ3 Q) (n := D 1) ?_ (fun j hj ih2 => ?_) 0 (Nat.zero_le _)
      · refine v_M_quiet_50 (f4.sh hs2) ⟨fun _ => ?_, fun c => absurd (by rw [hJ4.1.1.F]; exact Int32.le_refl _) c⟩
        rw [k33, nI_1]
        cases ho : bst (quB D P) (wys D) k with
        | none =>
          rw [u1 ho]
          exact ⟨fun _ => take (by rw [ho]; rfl), fun c2 => absurd (by decide) c2⟩
        | some b =>
          have hbm := bst_mem _ ho
          rw [(u2 b ho).1]
          refine ⟨fun c2 => absurd c2 (nI_pos (ql b hbm)), fun _ => ⟨fun c3 => ?_, fun c3 => ?_⟩⟩
          · rw [qs_N, nI_leI (ql b hbm) (ql w hwm)] at c3
            exact keep (by rw [ho]; simp [quB]; omega)
          · rw [qs_N, nI_leI (ql b hbm) (ql w hwm)] at c3
            exact take (by rw [ho]; simp [quB]; omega)
      · refine v_M_quiet_50 (f4.sh hs2) ⟨fun c => by rw [hJ4.1.1.F] at c; exact ge_not c hj (by omega), fun _ => ?_⟩
        refine M_felt_ok (b := 1804) (d := d + 7) (f4.sh hs2) hw.1 hJ4.1 g3 (by decide) hj ⟨f4.sh hs2, _, rfl, ?_⟩
        rw [nI_1]
        exact ih2
  refine v_M_quiet_0 hs ⟨fun k => main (fun h => h.1 k), fun k => M_isFamily_ok hs1 hJ1.1.1 ⟨hs1, _, rfl, fun k2 => main (fun h => k2 h.2), fun k2 => hq _ _ ⟨by rw [a_quiet, if_pos ⟨k, k2⟩], Th_fr, hJ1⟩⟩⟩
end WQ2
