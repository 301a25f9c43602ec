-- questions over all ways
def cnt (b : (Nat → Nat) → Bool) (ws : List (Nat → Nat)) : Nat → Nat
  | 0 => 0
  | k + 1 => match ws[k]? with
    | some w => cnt b ws k + (if b w then 1 else 0)
    | none => cnt b ws k
theorem cnt_s {b : (Nat → Nat) → Bool} {ws : List (Nat → Nat)} {k : Nat} {w : Nat → Nat} (h : ws[k]? = some w) : cnt b ws (k + 1) = cnt b ws k + (if b w then 1 else 0) := by rw [cnt, h]
theorem cnt_le {b : (Nat → Nat) → Bool} {ws : List (Nat → Nat)} : ∀ k, cnt b ws k ≤ k
  | 0 => Nat.le_refl 0
  | k + 1 => by
    have := cnt_le (b := b) (ws := ws) k
    rw [cnt]
    split
    · split <;> omega
    · omega
def a_peace (D : Nat → Nat) (P : Nat → List Int32) (x y : Int32) : Int32 := if isN (D 1) x = 0 then -1 else if inN 0 y 999 = 0 then -1 else (((nI (cnt (fun w => decide (¬ y < felt D w P x.toNatClampNeg)) (wys D) (wys D).length)).toInt64 * 1000000) / (nI (wys D).length).toInt64).toInt32
def a_mend (D hm : Nat → Nat) (x : Int32) : Int32 := if ¬ x = -1 ∧ isN (D 1) x = 0 then -2 else match bst (mdB D hm) (wys D) (wys D).length with
  | none => -2
  | some b => if x = -1 then nI (swc hm b (D 1) (D 1)) else nI (b x.toNatClampNeg)
def a_please (D hm : Nat → Nat) (P : Nat → List Int32) (x : Int32) : Int32 := if inN 0 x (1 + nI (D 1)) = 0 then -1 else match bst (plB D hm P) (wys D) (wys D).length with
  | none => 0
  | some b => if x = 0 then nI (ncN D b P (D 1)) else if x = 1 then nI (swc hm b (D 1) (D 1)) else nI (b (x - 2).toNatClampNeg)
def a_quiet (D : Nat → Nat) (P : Nat → List Int32) (x : Int32) : Int32 := if ¬ x = -1 ∧ isN (D 1) x = 0 then -2 else match bst (quB D P) (wys D) (wys D).length with
  | none => 0
  | some b => if x = -1 then nI (qsN D b P (D 1)) else nI (b x.toNatClampNeg)
theorem bst_ne {bt : (Nat → Nat) → Option (Nat → Nat) → Bool} {ws : List (Nat → Nat)} (h0 : ∀ w, bt w none = true) : ∀ k, 0 < k → k ≤ ws.length → ∃ b, bst bt ws k = some b
  | 0, h, _ => absurd h (Nat.lt_irrefl 0)
  | k + 1, _, hk => by
    obtain ⟨w, hw⟩ := get_some (ws := ws) (k := k) (by omega)
    rw [bst_s hw]
    rcases Nat.eq_zero_or_pos k with z | z
    · subst z
      exact ⟨w, by rw [bst, if_pos (h0 w)]⟩
    · obtain ⟨b, hb⟩ := bst_ne (ws := ws) h0 k z (by omega)
      rw [hb]
      split
      · exact ⟨w, rfl⟩
      · exact ⟨b, rfl⟩
def qM : Nat → Nat → Prop := fun a i => a = 173 ∨ a = 174 ∨ a = 179 ∨ a = 180 ∨ a = 181 ∨ (a = 175 ∧ 1804 ≤ i) ∨ (a = 159 ∧ (i = 0 ∨ i = 31 ∨ i = 33 ∨ i = 34 ∨ i = 36))
def qW : Nat → Nat → Prop := fun a i => a = 173 ∨ a = 174 ∨ a = 180 ∨ a = 181 ∨ (a = 175 ∧ 1804 ≤ i) ∨ (a = 159 ∧ (i = 33 ∨ i = 34 ∨ i = 36))
section WQ
variable {G : q_G} {d : Nat} {σ σ' : q_S} {Q : Option Value → q_S → Prop} {t p : Nat} {D : Nat → Nat} {P : Nat → List Int32} {N : q_nm} {hm : Nat → Nat} {L L' : Nat → Int32} {un un' : List q_lf} {mk mk' : Nat → Option (q_lf × q_tl)} {tl tl' : q_tl} {dy : q_dy} {tp : List Nat} {x y z c : Int32}
theorem CJ.ln (hw : WJ D P N hm L un mk tl dy tp) (hJ : CJ σ t p D P N L un mk tl dy tp) (hf : Fr SLn SLy σ σ') (h1 : q_I σ' 5 8 = 1) (h2 : WyD σ' D P (wys D)) : CJ σ' t p D P N L un mk tl dy tp := ⟨hJ.1.fr hw.2.2.2.2.2.1.1 hf (fun a i z => by
    have hd := isDy_cases hJ.1.2.1.2.1
    have ht := isTw_cases hJ.1.1.2.1
    rcases SLn_in z with z | z
    · exact Sc_cj hJ.1.1.2.1 hJ.1.2.1.2.1 z
    · unfold cj TC; omega) (fun a i z => by have ht := isTw_cases hJ.1.1.2.1; unfold SLy at z; unfold cjL; omega), Or.inr ⟨h1, h2⟩⟩
theorem SLn_L (hf : Fr SLn SLy σ σ') : Fr lo_ lo_ σ σ' := hf.lo (fun a i z => by rcases SLn_in z with z | z; exact Sc_lo z; omega) (fun a i z => by unfold SLy at z; omega)
theorem qW_qM (hf : Fr qW noL σ σ') : Fr qM noL σ σ' := hf.mono (fun a i z => by unfold qW at z; unfold qM; omega) (fun _ _ z => z)
theorem qM_H (hf : Fr qM noL σ σ') : Fr hi_ hi_ σ σ' := hf.hi (fun a i z => by unfold qM at z; omega) (fun _ _ z => z.elim)
theorem MJ.qm (hw : WJ D P N hm L un mk tl dy tp) (hJ : MJ σ D P N L un mk tl dy tp) (hf : Fr qM noL σ σ') : MJ σ' D P N L un mk tl dy tp := hJ.fr hw hf (fun a i z => by unfold qM at z; unfold mj; omega) (fun _ _ z => z.elim)
theorem MWs.qw (h : MWs σ D (wys D)) (hf : Fr qW noL σ σ') : MWs σ' D (wys D) := ⟨by rw [hf.2.2.1 _ _ (fun z => by unfold qW at z; omega)]; exact h.1, fun k w hk f hl => by rw [hf.2.2.1 _ _ (fun z => by unfold qW at z; omega)]; exact h.2 k w hk f hl⟩
theorem SMl_q (hf : Fr (SMl 0) noL σ σ') : Fr qM noL σ σ' := hf.mono (fun a i z => by unfold SMl at z; unfold qM; omega) (fun _ _ z => z)
theorem SMo_q (hf : Fr SMo noL σ σ') : Fr qW noL σ σ' := hf.mono (fun a i z => by unfold SMo at z; unfold qW; omega) (fun _ _ z => z)
theorem Sm_q (hf : Fr Sm noL σ σ') : Fr qW noL σ σ' := hf.mono (fun a i z => by unfold Sm at z; unfold qW; omega) (fun _ _ z => z)
theorem STk_q (hf : Fr STk noL σ σ') : Fr qW noL σ σ' := hf.mono (fun a i z => by unfold STk at z; unfold qW; omega) (fun _ _ z => z)
theorem Th_q {v : Int32} : Fr qM noL σ (q_setI σ 159 0 v) := Fr.setI (by unfold qM; omega)
theorem in0_s {y : Int32} (h : ¬ y < 0) (h2 : y ≤ 999) : ¬ inN 0 y 999 = 0 := by
  unfold inN
  rw [if_neg h, if_neg (Int32.not_lt.mpr h2)]
  decide
theorem W_peace_ok (hs : q_Sh σ) (hw : WJ D P N hm L un mk tl dy tp) (hJ : CJ σ t p D P N L un mk tl dy tp) (hq : ∀ σ', Fr lo_ lo_ σ σ' → CJ σ' t p D P N L un mk tl dy tp → Q (some (.int (a_peace D P x y))) σ') : q_Call G (d + 13) 0 0 X_W_peace [.ref 0, .int x, .int y] σ Q := by
  have h6 := hw.1.F6
  have hl := wys_len hw.1
  refine q_cii (Pp := fun v σ' => v = a_peace D P x y ∧ Fr lo_ lo_ σ σ' ∧ CJ σ' t p D P N L un mk tl dy tp) (by decide +kernel) (Nat.le_of_ble_eq_true rfl) (fun Q hq => ?_) (fun v σ' h => by rw [h.1]; exact hq σ' h.2.1 h.2.2)
  have no : a_peace D P x y = -1 → Q (some (.int (-1))) σ := fun e => hq _ _ ⟨e.symm, Fr.rf, hJ⟩
  refine v_W_peace_0 hs (W_isFamily_ok hs hJ.1 ⟨hs, _, rfl, fun k => no (by rw [a_peace, if_pos k]), fun k => ⟨fun k2 => no (by rw [a_peace, if_neg k, inN, if_pos k2]; rfl), fun k2 => ⟨fun k3 => ⟨t, hJ.1.1.1, hJ.1.1.2.1, ?_⟩, fun k3 => no (by rw [a_peace, if_neg k, inN, if_neg k2, if_pos (Int32.not_le.mp k3)]; rfl)⟩⟩⟩)
  obtain ⟨f, a1, rfl⟩ := isN_s (by omega) k
  have e0 : a_peace D P (nI f) y = (((nI (cnt (fun w => decide (¬ y < felt D w P f)) (wys D) (wys D).length)).toInt64 * 1000000) / (nI (wys D).length).toInt64).toInt32 := by rw [a_peace, if_neg k, if_neg (in0_s k2 k3), nI_clamp (by omega)]
  refine Wy_learn_ok (d := d) hJ.1.1.2.1 hs hw.1 hw.2.1 hJ.1.2.2.1 hJ.2 (fun σ1 f1 g1 g2 => ⟨f1.sh hs, rfl, ?_⟩)
  have hs1 := f1.sh hs
  refine up_ind (R := fun k => q_At G X_W_peace (d + 13) 0 0 37 [some (.ref 0), some (.int (nI f)), some (.int y), some (.int (nI (cnt (fun w => decide (¬ y < felt D w P f)) (wys D) k))), some (.int (nI k))] [] σ1 Q) (n := (wys D).length) ?_ (fun k hk ih => ?_) 0 (Nat.zero_le _)
  · refine v_W_peace_37 hs1 ⟨fun _ => ⟨fun _ => ⟨by rw [g2.2.1]; exact nz64 hl.2 (by omega), ?_⟩, fun c => absurd (by rw [g2.2.1]; exact nI_le (a := 1) hl.2 (by omega)) c⟩, fun c => absurd (by rw [g2.2.1]; exact Int32.le_refl _) c⟩
    rw [g2.2.1]
    exact hq _ _ ⟨e0.symm, SLn_L f1, hJ.ln hw f1 g1 g2⟩
  · obtain ⟨w, hwk⟩ := get_some hk
    have hwo := wys_ok (List.mem_of_getElem? hwk)
    rw [cnt_s hwk] at ih
    refine v_W_peace_37 hs1 ⟨fun c => by rw [g2.2.1] at c; exact ge_not c hk (by omega), fun _ => ?_⟩
    refine Wy_felt_ok (d := d + 11) hs1 hw.1 g2 hl.1 hwk hwo.1 a1 ⟨hs1, _, rfl, fun c => ?_, fun c => ?_⟩
    · rw [if_neg (by simp [c]), Nat.add_zero] at ih
      rw [nI_1]; exact ih
    · rw [if_pos (by simp [c])] at ih
      rw [nI_1, nI_1]; exact ih
theorem M_peace_ok (hs : q_Sh σ) (hw : WJ D P N hm L un mk tl dy tp) (hJ : MJ σ D P N L un mk tl dy tp) (hq : ∀ σ', Fr hi_ hi_ σ σ' → MJ σ' D P N L un mk tl dy tp → Q (some (.int (a_peace D P x y))) σ') : q_Call G (d + 9) 0 0 X_M_peace [.ref 159, .int x, .int y] σ Q := by
  have h6 := hw.1.F6
  have hl := wys_len hw.1
  refine q_cii (Pp := fun v σ' => v = a_peace D P x y ∧ Fr hi_ hi_ σ σ' ∧ MJ σ' D P N L un mk tl dy tp) (by decide +kernel) (Nat.le_of_ble_eq_true rfl) (fun Q hq => ?_) (fun v σ' h => by rw [h.1]; exact hq σ' h.2.1 h.2.2)
  have hs1 : q_Sh (Th σ) := Th_fr.sh hs
  have hJ1 : MJ (Th σ) D P N L un mk tl dy tp := hJ.th hw
  have no : a_peace D P x y = -1 → Q (some (.int (-1))) (Th σ) := fun e => hq _ _ ⟨e.symm, Th_fr, hJ1⟩
  refine v_M_peace_0 hs (M_isFamily_ok hs1 hJ1.1.1 ⟨hs1, _, rfl, fun k => no (by rw [a_peace, if_pos k]), fun k => M_within_ok hs1 ⟨hs1, _, rfl, fun k2 => ?_, fun k2 => no (by rw [a_peace, if_neg k, if_pos k2])⟩⟩)
  obtain ⟨f, a1, rfl⟩ := isN_s (by omega) k
  have e0 : a_peace D P (nI f) y = (((nI (cnt (fun w => decide (¬ y < felt D w P f)) (wys D) (wys D).length)).toInt64 * 1000000) / (nI (wys D).length).toInt64).toInt32 := by rw [a_peace, if_neg k, if_neg k2, nI_clamp (by omega)]
  refine M_findWays_ok (d := d) hs1 hw.1 hJ1.1.1 (fun σ1 f1 g1 => ⟨f1.sh hs1, rfl, ?_⟩)
  have hs2 := f1.sh hs1
  have hJ2 := hJ1.qm hw (SMl_q f1)
  refine up_ind (R := fun k => ∀ σ2, Fr qW noL σ1 σ2 → q_At G X_M_peace (d + 9) 0 0 35 [some (.ref 159), some (.int (nI f)), some (.int y), some (.int (nI (cnt (fun w => decide (¬ y < felt D w P f)) (wys D) k))), some (.int (nI k))] [] σ2 Q) (n := (wys D).length) (fun σ2 f2 => ?_) (fun k hk ih σ2 f2 => ?_) 0 (Nat.zero_le _) σ1 Fr.rf
  · have eW := (g1.qw f2).1
    refine v_M_peace_35 (f2.sh hs2) ⟨fun _ => ⟨by rw [eW]; exact nz64 hl.2 (by omega), ?_⟩, fun c => absurd (by rw [eW]; exact Int32.le_refl _) c⟩
    rw [eW]
    exact hq _ _ ⟨e0.symm, Th_fr.tr ((qM_H (SMl_q f1)).tr (qM_H (qW_qM f2))), hJ2.qm hw (qW_qM f2)⟩
  · have eW := (g1.qw f2).1
    obtain ⟨w, hwk⟩ := get_some hk
    rw [cnt_s hwk] at ih
    refine v_M_peace_35 (f2.sh hs2) ⟨fun c => by rw [eW] at c; exact ge_not c hk (by omega), fun _ => ?_⟩
    refine M_laysWay_ok (d := d + 7) (f2.sh hs2) hw.1 (hJ2.qm hw (qW_qM f2)).1.1 (g1.qw f2) hwk (fun σ3 f3 g3 => ⟨f3.sh (f2.sh hs2), rfl, ?_⟩)
    have f4 := f2.tr (SMo_q f3)
    refine M_felt_ok (b := 1804) (d := d + 7) (f4.sh hs2) hw.1 (hJ2.qm hw (qW_qM f4)).1 g3 (by decide) a1 ⟨f4.sh hs2, _, rfl, ?_⟩
    dsimp only
    by_cases c : y < felt D w P f
    · rw [if_neg (by simp [c]), Nat.add_zero] at ih
      rw [if_pos c, Int32.add_zero, nI_1]
      exact ih σ3 f4
    · rw [if_pos (by simp [c])] at ih
      rw [if_neg c, nI_1, nI_1]
      exact ih σ3 f4
theorem W_quiet_ok (hs : q_Sh σ) (hw : WJ D P N hm L un mk tl dy tp) (hJ : CJ σ t p D P N L un mk tl dy tp) (hq : ∀ σ', Fr lo_ lo_ σ σ' → CJ σ' t p D P N L un mk tl dy tp → Q (some (.int (a_quiet D P x))) σ') : q_Call G (d + 13) 0 0 X_W_quiet [.ref 0, .int x] σ Q := by
  have h6 := hw.1.F6
  have hl := wys_len hw.1
  refine q_cii (Pp := fun v σ' => v = a_quiet D P x ∧ Fr lo_ lo_ σ σ' ∧ CJ σ' t p D P N L un mk tl dy tp) (by decide +kernel) (Nat.le_of_ble_eq_true rfl) (fun Q hq => ?_) (fun v σ' h => by rw [h.1]; exact hq σ' h.2.1 h.2.2)
  obtain ⟨b, hb⟩ := bst_ne (bt := quB D P) (ws := wys D) (fun _ => rfl) (wys D).length hl.2 (Nat.le_refl _)
  have hbo := wys_ok (bst_mem _ hb)
  have main : ¬ (¬ x = -1 ∧ isN (D 1) x = 0) → q_Call G (d + 12) 0 0 X_Wy_learn [.ref 5, .ref t] σ (q_rv (fun σ6 => q_Call G (d + 12) 0 0 X_Wy_firstQuiet [.ref 5] σ6 (q_ri (fun x11 σ9 => ((¬ x = (-1) → q_Call G (d + 12) 0 0 X_Wy_houseOf [.ref 5, .int x11, .int x] σ9 (q_ri (fun x17 σ15 => Q (some (.int x17)) σ15))) ∧ (x = (-1) → q_Call G (d + 12) 0 0 X_Wy_feltByAll [.ref 5, .int x11] σ9 (q_ri (fun x22 σ20 => Q (some (.int x22)) σ20)))))))) := by
    intro hn
    have e0 : a_quiet D P x = if x = -1 then nI (qsN D b P (D 1)) else nI (b x.toNatClampNeg) := by rw [a_quiet, if_neg hn, hb]
    refine Wy_learn_ok (d := d) hJ.1.1.2.1 hs hw.1 hw.2.1 hJ.1.2.2.1 hJ.2 (fun σ1 f1 g1 g2 => ⟨f1.sh hs, rfl, ?_⟩)
    have hs1 := f1.sh hs
    refine Wy_quiet_ok (d := d + 9) hs1 hw.1 g2 (fun v hv => ⟨hs1, _, rfl, fun k => ?_, fun k => ?_⟩)
    · have k2 : ¬ isN (D 1) x = 0 := fun h => hn ⟨k, h⟩
      obtain ⟨f, a1, rfl⟩ := isN_s (by omega) k2
      rw [if_neg k, nI_clamp (by omega)] at e0
      rcases hv with ⟨o, _⟩ | ⟨j, b', c1, c2, rfl⟩
      · rw [hb] at o; exact absurd o (by simp)
      · rw [hb] at c2
        have c2 := Option.some.inj c2
        subst c2
        exact Wy_house_ok (d := d + 11) hs1 hw.1 g2 hl.1 c1 hbo.1 a1 ⟨hs1, _, rfl, hq _ _ ⟨e0.symm, SLn_L f1, hJ.ln hw f1 g1 g2⟩⟩
    · rw [if_pos k] at e0
      rcases hv with ⟨o, _⟩ | ⟨j, b', c1, c2, rfl⟩
      · rw [hb] at o; exact absurd o (by simp)
      · rw [hb] at c2
        have c2 := Option.some.inj c2
        subst c2
        exact Wy_feltAll_ok (d := d + 10) hs1 hw.1 g2 hl.1 c1 hbo.1 ⟨hs1, _, rfl, hq _ _ ⟨by rw [e0, qs_N], SLn_L f1, hJ.ln hw f1 g1 g2⟩⟩
  refine v_W_quiet_0 hs ⟨fun k => ⟨t, hJ.1.1.1, hJ.1.1.2.1, main (fun h => h.1 k)⟩, fun k => W_isFamily_ok hs hJ.1 ⟨hs, _, rfl, fun k2 => ⟨t, hJ.1.1.1, hJ.1.1.2.1, main (fun h => k2 h.2)⟩, fun k2 => hq _ _ ⟨by rw [a_quiet, if_pos ⟨k, k2⟩], Fr.rf, hJ⟩⟩⟩
theorem W_mend_ok (hs : q_Sh σ) (hw : WJ D P N hm L un mk tl dy tp) (hJ : CJ σ t p D P N L un mk tl dy tp) (hq : ∀ σ', Fr lo_ lo_ σ σ' → CJ σ' t p D P N L un mk tl dy tp → Q (some (.int (a_mend D hm x))) σ') : q_Call G (d + 13) 0 0 X_W_mend [.ref 0, .int x] σ Q := by
  have h6 := hw.1.F6
  have hl := wys_len hw.1
  refine q_cii (Pp := fun v σ' => v = a_mend D hm x ∧ Fr lo_ lo_ σ σ' ∧ CJ σ' t p D P N L un mk tl dy tp) (by decide +kernel) (Nat.le_of_ble_eq_true rfl) (fun Q hq => ?_) (fun v σ' h => by rw [h.1]; exact hq σ' h.2.1 h.2.2)
  have main : ¬ (¬ x = -1 ∧ isN (D 1) x = 0) → q_Call G (d + 12) 0 0 X_Wy_learn [.ref 5, .ref t] σ (q_rv (fun σ6 => (∃ t9, q_R σ6 0 12 = some t9 ∧ q_isTw t9 ∧ q_Call G (d + 12) 0 0 X_Wy_firstMending [.ref 5, .ref t9, .ref 16] σ6 (q_ri (fun x13 σ11 => ((¬ x13 = (-1) → ((¬ x = (-1) → q_Call G (d + 12) 0 0 X_Wy_houseOf [.ref 5, .int x13, .int x] σ11 (q_ri (fun x21 σ19 => Q (some (.int x21)) σ19))) ∧ (x = (-1) → (∃ t24, q_R σ11 0 12 = some t24 ∧ q_isTw t24 ∧ q_Call G (d + 12) 0 0 X_Wy_swapsTo [.ref 5, .int x13, .ref t24, .ref 16] σ11 (q_ri (fun x28 σ26 => Q (some (.int x28)) σ26)))))) ∧ (x13 = (-1) → Q (some (.int (-2))) σ11))))))) := by
    intro hn
    have e0 : a_mend D hm x = match bst (mdB D hm) (wys D) (wys D).length with
      | none => -2
      | some b => if x = -1 then nI (swc hm b (D 1) (D 1)) else nI (b x.toNatClampNeg) := by rw [a_mend, if_neg hn]
    refine Wy_learn_ok (d := d) hJ.1.1.2.1 hs hw.1 hw.2.1 hJ.1.2.2.1 hJ.2 (fun σ1 f1 g1 g2 => ⟨f1.sh hs, rfl, ?_⟩)
    have hs1 := f1.sh hs
    have hJ1 := hJ.ln hw f1 g1 g2
    refine ⟨t, hJ1.1.1.1, hJ1.1.1.2.1, Wy_mend_ok (d := d + 8) hJ1.1.1.2.1 (by decide +kernel) hs1 hw.1 hJ1.1.2.2.1.1 (hJ1.1.hom hw) hw.2.2.2.2.1.2.1 g2 (fun v hv => ⟨hs1, _, rfl, ?_⟩)⟩
    rcases hv with ⟨o, rfl⟩ | ⟨j, b, c1, c2, rfl⟩
    · rw [o] at e0
      exact ⟨fun h => absurd rfl h, fun _ => hq _ _ ⟨e0.symm, SLn_L f1, hJ1⟩⟩
    · rw [c2] at e0
      have hbo := wys_ok (List.mem_of_getElem? c1)
      have jl := get_lt c1
      refine ⟨fun _ => ⟨fun k => ?_, fun k => ⟨t, hJ1.1.1.1, hJ1.1.1.2.1, ?_⟩⟩, fun h => absurd h (nm1 j (by omega))⟩
      · have k2 : ¬ isN (D 1) x = 0 := fun h => hn ⟨k, h⟩
        obtain ⟨f, a1, rfl⟩ := isN_s (by omega) k2
        simp only [if_neg k, nI_clamp (show f < 2 ^ 31 by omega)] at e0
        exact Wy_house_ok (d := d + 11) hs1 hw.1 g2 hl.1 c1 hbo.1 a1 ⟨hs1, _, rfl, hq _ _ ⟨e0.symm, SLn_L f1, hJ1⟩⟩
      · simp only [if_pos k] at e0
        exact Wy_swaps_ok (d := d + 9) hJ1.1.1.2.1 (by decide +kernel) hs1 hw.1 hJ1.1.2.2.1.1 (hJ1.1.hom hw) hw.2.2.2.2.1.2.1 g2 hl.1 c1 hbo.1 ⟨hs1, _, rfl, hq _ _ ⟨e0.symm, SLn_L f1, hJ1⟩⟩
  refine v_W_mend_0 hs ⟨fun k => ⟨t, hJ.1.1.1, hJ.1.1.2.1, main (fun h => h.1 k)⟩, fun k => W_isFamily_ok hs hJ.1 ⟨hs, _, rfl, fun k2 => ⟨t, hJ.1.1.1, hJ.1.1.2.1, main (fun h => k2 h.2)⟩, fun k2 => hq _ _ ⟨by rw [a_mend, if_pos ⟨k, k2⟩], Fr.rf, hJ⟩⟩⟩
end WQ
