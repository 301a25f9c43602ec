def l15 : Nat → Nat → Prop := fun a _ => a = 12 ∨ a = 13 ∨ (15 ≤ a ∧ a ≤ 18)
def lM0 : Nat → Nat → Prop := fun a i => (a = 175 ∧ i < 50) ∨ a = 178 ∨ (a = 159 ∧ (i = 0 ∨ i = 28))
def a_lend (D hm : Nat → Nat) (L : Nat → Int32) (x y c : Int32) : Int32 := if twoN (D 1) x y = 0 then 0 else if inN 1 c 999 = 0 then 0 else if L (6 + x.toNatClampNeg) < c then 0 else if thk D hm x.toNatClampNeg y.toNatClampNeg = 0 then 0 else 1
def a_pay (D : Nat → Nat) (L : Nat → Int32) (x y c : Int32) : Int32 := if twoN (D 1) x y = 0 then 0 else if inN 1 c 999 = 0 then 0 else if L (6 + x.toNatClampNeg) < c then 0 else if L (12 + (x.toNatClampNeg * 6 + y.toNatClampNeg)) < c then 0 else 1
section ACTS
variable {G : q_G} {d : Nat} {σ σ' : q_S} {Q : Option Value → q_S → Prop} {t p : Nat} {D : Nat → Nat} {P : Nat → List Int32} {N : q_nm} {hm : Nat → Nat} {L L' : Nat → Int32} {un un' : List q_lf} {mk mk' : Nat → Option (q_lf × q_tl)} {tl tl' : q_tl} {dy : q_dy} {tp : List Nat} {x y c : Int32}
theorem CJ.life (hl : un.length ≤ 16) (h : CJ σ t p D P N L un mk tl dy tp) (hf : Fr l15 l15 σ σ') (h1 : CL σ' 15 L') : CJ σ' t p D P N L' un mk tl dy tp := h.upd (hf.mono (fun a i z => by unfold l15 at z; unfold lfA; omega) (fun a i z => by unfold l15 at z; unfold lfA; omega)) h1 (h.1.2.2.2.2.2.1.keep hl (fun a i z => hf.2.2.1 _ _ (fun y => by unfold l15 at y; omega))) (h.1.2.2.2.2.2.2.1.keep (fun a i z => hf.2.2.1 _ _ (fun y => by unfold l15 at y; omega)) (fun a i b1 b2 => hf.2.2.2 _ _ (fun y => by unfold l15 at y; omega))) (h.1.2.2.2.2.2.2.2.1.keep (fun i => hf.2.2.2 _ _ (fun y => by unfold l15 at y; omega)) (fun i => hf.2.2.1 _ _ (fun y => by unfold l15 at y; omega)))
theorem MJ.life (hw : WJ D P N hm L un mk tl dy tp) (h : MJ σ D P N L un mk tl dy tp) (hf : Fr lM0 lM0 σ σ') (h1 : ML σ' 0 L') : MJ σ' D P N L' un mk tl dy tp := h.upd hw (hf.mono (fun a i z => by unfold lM0 at z; unfold lfM; omega) (fun a i z => by unfold lM0 at z; unfold lfM; omega)) h1 (h.2.2.2.1.keep hw.2.2.2.2.2.1.1 (hf.2.2.1 _ _ (fun y => by unfold lM0 at y; omega)) (fun i b1 b2 => hf.2.2.1 _ _ (fun y => by unfold lM0 at y; omega))) (h.2.2.2.2.1.keep hw.2.2.2.2.2.2.1 (fun i => hf.2.2.1 _ _ (fun y => by unfold lM0 at y; omega)) (fun i b1 b2 => hf.2.2.1 _ _ (fun y => by unfold lM0 at y; omega))) ⟨by rw [hf.2.2.1 _ _ (fun y => by unfold lM0 at y; omega)]; exact h.2.2.2.2.2.1.1, fun k x hx => by
    rw [hf.2.2.1 _ _ (fun y => by unfold lM0 at y; omega), hf.2.2.1 _ _ (fun y => by unfold lM0 at y; omega), hf.2.2.1 _ _ (fun y => by unfold lM0 at y; omega)]
    exact h.2.2.2.2.2.1.2 k x hx⟩
theorem SLi_15 (hf : Fr (SLi 15) noL σ σ') : Fr l15 l15 σ σ' := hf.mono (fun a i z => by unfold SLi at z; unfold l15; omega) (fun _ _ z => z.elim)
theorem SMb_0 (hf : Fr (SMb 0) noL σ σ') : Fr lM0 lM0 σ σ' := hf.mono (fun a i z => by unfold SMb at z; unfold lM0; omega) (fun _ _ z => z.elim)
theorem l15_lo (hf : Fr l15 l15 σ σ') : Fr lo_ lo_ σ σ' := hf.lo (fun a i z => by unfold l15 at z; omega) (fun a i z => by unfold l15 at z; omega)
theorem lM0_hi (hf : Fr lM0 lM0 σ σ') : Fr hi_ hi_ σ σ' := hf.hi (fun a i z => by unfold lM0 at z; omega) (fun a i z => by unfold lM0 at z; omega)
theorem lfA_L (hf : Fr lfA lfA σ σ') : Fr lo_ lo_ σ σ' := hf.lo (fun a i z => lfA_lo z) (fun a i z => lfA_lo z)
theorem lfM_H (hf : Fr lfM lfM σ σ') : Fr hi_ hi_ σ σ' := hf.hi (fun a i z => lfM_hi z) (fun a i z => lfM_hi z)
theorem WJ.push (hw : WJ D P N hm L un mk tl dy tp) : WJ D P N hm L (pushU hm L un) mk tl dy tp := by
  obtain ⟨w1, w2, w3, w4, w5, w6, w7⟩ := hw
  exact ⟨w1, w2, w3, w4, w5, WU_push w6 w5, w7⟩
theorem WJ.lif {hm' : Nat → Nat} (hw : WJ D P N hm L un mk tl dy tp) (h : WL D hm' L') : WJ D P N hm' L' un mk tl dy tp := by
  obtain ⟨w1, w2, w3, w4, w5, w6, w7⟩ := hw
  exact ⟨w1, w2, w3, w4, h, w6, w7⟩
theorem W_swap_ok (hs : q_Sh σ) (hw : WJ D P N hm L un mk tl dy tp) (hJ : CJ σ t p D P N L un mk tl dy tp) (hq0 : twoN (D 1) x y = 0 → Q (some (.int 0)) σ) (hq1 : ¬ twoN (D 1) x y = 0 → ∀ σ', Fr lo_ lo_ σ σ' → CJ σ' t p D P N (swpL L x.toNatClampNeg y.toNatClampNeg) (pushU hm L un) mk tl dy tp → Q (some (.int 1)) σ') : q_Call G (d + 3) 0 0 X_W_swap [.ref 0, .int x, .int y] σ Q := by
  have h6 := hw.1.F6
  refine q_enter (by decide +kernel) (Nat.le_of_ble_eq_true rfl) ?_
  refine v_W_swap_0 hs (W_areTwo_ok (d := d + 1) hs hJ.1 ⟨hs, _, rfl, fun c => ?_, fun c => ⟨q_no_i, hq0 c⟩⟩)
  obtain ⟨f, e, a1, a2, a3, rfl, rfl⟩ := twoN_s (by omega) c
  rw [nI_clamp (by omega), nI_clamp (by omega)] at hq1
  refine W_remember_ok (d := d) hs hw hJ (fun σ1 f1 g1 => ⟨f1.sh hs, rfl, ?_⟩)
  refine Li_swap_ok isLi_15 (f1.sh hs) g1.1.2.2.2.2.1 (by omega) (by omega) (fun σ2 f2 g2 => ⟨f2.sh (f1.sh hs), rfl, q_no_i, hq1 c σ2 ((lfA_L f1).tr (l15_lo (SLi_15 f2))) (g1.life hw.push.2.2.2.2.2.1.1 (SLi_15 f2) g2)⟩)
theorem M_swap_ok' (hs : q_Sh σ) (hw : WJ D P N hm L un mk tl dy tp) (hJ : MJ σ D P N L un mk tl dy tp) (hq0 : twoN (D 1) x y = 0 → Q (some (.int 0)) (Th σ)) (hq1 : ¬ twoN (D 1) x y = 0 → ∀ σ', Fr hi_ hi_ σ σ' → MJ σ' D P N (swpL L x.toNatClampNeg y.toNatClampNeg) (pushU hm L un) mk tl dy tp → Q (some (.int 1)) σ') : q_Call G (d + 3) 0 0 X_M_swap [.ref 159, .int x, .int y] σ Q := by
  have h6 := hw.1.F6
  refine q_enter (by decide +kernel) (Nat.le_of_ble_eq_true rfl) ?_
  have hs1 : q_Sh (Th σ) := Th_fr.sh hs
  have hJ1 : MJ (Th σ) D P N L un mk tl dy tp := hJ.th hw
  refine v_M_swap_0 hs (M_areTwo_ok hs1 hJ1.1.1 ⟨hs1, _, rfl, fun c => ?_, fun c => ⟨q_no_i, hq0 c⟩⟩)
  obtain ⟨f, e, a1, a2, a3, rfl, rfl⟩ := twoN_s (by omega) c
  rw [nI_clamp (by omega), nI_clamp (by omega)] at hq1
  refine M_keeps_ok (d := d + 1) hs1 hw hJ1 (fun σ1 f1 g1 => ⟨f1.sh hs1, rfl, ?_⟩)
  refine M_swap_ok (b := 0) (f1.sh hs1) g1.2.2.1 (by decide) (by omega) (by omega) (fun σ2 f2 g2 => ⟨f2.sh (f1.sh hs1), rfl, q_no_i, hq1 c σ2 (Th_fr.tr ((lfM_H f1).tr (lM0_hi (SMb_0 f2)))) (g1.life hw.push (SMb_0 f2) g2)⟩)
theorem W_lend_ok (hs : q_Sh σ) (hw : WJ D P N hm L un mk tl dy tp) (hJ : CJ σ t p D P N L un mk tl dy tp) (hq0 : a_lend D hm L x y c = 0 → Q (some (.int 0)) σ) (hq1 : ¬ a_lend D hm L x y c = 0 → ∀ σ', Fr lo_ lo_ σ σ' → CJ σ' t p D P N (lenL L x.toNatClampNeg y.toNatClampNeg c) (pushU hm L un) mk tl dy tp → Q (some (.int 1)) σ') : q_Call G (d + 4) 0 0 X_W_lend [.ref 0, .int x, .int y, .int c] σ Q := by
  have h6 := hw.1.F6
  refine q_enter (by decide +kernel) (Nat.le_of_ble_eq_true rfl) ?_
  refine v_W_lend_0 hs (W_areTwo_ok (d := d + 2) hs hJ.1 ⟨hs, _, rfl, fun k => ⟨q_no_i, hq0 (by rw [a_lend, if_pos k])⟩, fun k => ?_⟩)
  obtain ⟨f, e, a1, a2, a3, rfl, rfl⟩ := twoN_s (by omega) k
  unfold a_lend at hq0 hq1
  rw [if_neg k, nI_clamp (by omega), nI_clamp (by omega)] at hq0 hq1
  refine W_isSum_ok hs ⟨hs, _, rfl, fun k2 => ⟨q_no_i, hq0 (by rw [if_pos k2])⟩, fun k2 => ⟨t, hJ.1.1.1, hJ.1.1.2.1, ?_⟩⟩
  rw [if_neg k2] at hq0 hq1
  refine Li_canLend_ok (d := d) hJ.1.1.2.1 isLi_15 hs hw.1 hJ.1.2.2.1.1 hJ.1.2.2.2.2.1 hw.2.2.2.2.1.1 a1 a2 ⟨hs, _, rfl, fun k3 => ?_, fun k3 => ⟨q_no_i, hq0 k3⟩⟩
  refine W_remember_ok (d := d + 1) hs hw hJ (fun σ1 f1 g1 => ⟨f1.sh hs, rfl, ?_⟩)
  refine Li_lend_ok isLi_15 (f1.sh hs) g1.1.2.2.2.2.1 (by omega) (by omega) (fun σ2 f2 g2 => ⟨f2.sh (f1.sh hs), rfl, q_no_i, hq1 k3 σ2 ((lfA_L f1).tr (l15_lo (SLi_15 f2))) (g1.life hw.push.2.2.2.2.2.1.1 (SLi_15 f2) g2)⟩)
theorem M_lend_ok (hs : q_Sh σ) (hw : WJ D P N hm L un mk tl dy tp) (hJ : MJ σ D P N L un mk tl dy tp) (hq0 : a_lend D hm L x y c = 0 → Q (some (.int 0)) (Th σ)) (hq1 : ¬ a_lend D hm L x y c = 0 → ∀ σ', Fr hi_ hi_ σ σ' → MJ σ' D P N (lenL L x.toNatClampNeg y.toNatClampNeg c) (pushU hm L un) mk tl dy tp → Q (some (.int 1)) σ') : q_Call G (d + 3) 0 0 X_M_lend [.ref 159, .int x, .int y, .int c] σ Q := by
  have h6 := hw.1.F6
  refine q_enter (by decide +kernel) (Nat.le_of_ble_eq_true rfl) ?_
  have hs1 : q_Sh (Th σ) := Th_fr.sh hs
  have hJ1 : MJ (Th σ) D P N L un mk tl dy tp := hJ.th hw
  refine v_M_lend_0 hs (M_areTwo_ok hs1 hJ1.1.1 ⟨hs1, _, rfl, fun k => ⟨q_no_i, hq0 (by rw [a_lend, if_pos k])⟩, fun k => ?_⟩)
  obtain ⟨f, e, a1, a2, a3, rfl, rfl⟩ := twoN_s (by omega) k
  unfold a_lend at hq0 hq1
  rw [if_neg k, nI_clamp (by omega), nI_clamp (by omega)] at hq0 hq1
  refine M_within_ok hs1 ⟨hs1, _, rfl, fun k2 => ⟨q_no_i, hq0 (by rw [if_pos k2])⟩, fun k2 => ?_⟩
  rw [if_neg k2] at hq0 hq1
  refine M_mayLend_ok (b := 0) (d := d + 1) hs1 hw.1 hJ1.1.1 hJ1.2.2.1 hw.2.2.2.2.1.1 (by decide) a1 a2 ⟨hs1, _, rfl, fun k3 => ?_, fun k3 => ⟨q_no_i, hq0 k3⟩⟩
  refine M_keeps_ok (d := d + 1) hs1 hw hJ1 (fun σ1 f1 g1 => ⟨f1.sh hs1, rfl, ?_⟩)
  refine M_lends_ok (b := 0) (d := d + 1) (f1.sh hs1) g1.2.2.1 (by decide) (by omega) (by omega) (fun σ2 f2 g2 => ⟨f2.sh (f1.sh hs1), rfl, q_no_i, hq1 k3 σ2 (Th_fr.tr ((lfM_H f1).tr (lM0_hi (SMb_0 f2)))) (g1.life hw.push (SMb_0 f2) g2)⟩)
theorem W_pay_ok (hs : q_Sh σ) (hw : WJ D P N hm L un mk tl dy tp) (hJ : CJ σ t p D P N L un mk tl dy tp) (hq0 : a_pay D L x y c = 0 → Q (some (.int 0)) σ) (hq1 : ¬ a_pay D L x y c = 0 → ∀ σ', Fr lo_ lo_ σ σ' → CJ σ' t p D P N (payL L x.toNatClampNeg y.toNatClampNeg c) (pushU hm L un) mk tl dy tp → Q (some (.int 1)) σ') : q_Call G (d + 3) 0 0 X_W_pay [.ref 0, .int x, .int y, .int c] σ Q := by
  have h6 := hw.1.F6
  refine q_enter (by decide +kernel) (Nat.le_of_ble_eq_true rfl) ?_
  refine v_W_pay_0 hs (W_areTwo_ok (d := d + 1) hs hJ.1 ⟨hs, _, rfl, fun k => ⟨q_no_i, hq0 (by rw [a_pay, if_pos k])⟩, fun k => ?_⟩)
  obtain ⟨f, e, a1, a2, a3, rfl, rfl⟩ := twoN_s (by omega) k
  unfold a_pay at hq0 hq1
  rw [if_neg k, nI_clamp (by omega), nI_clamp (by omega)] at hq0 hq1
  refine W_isSum_ok hs ⟨hs, _, rfl, fun k2 => ⟨q_no_i, hq0 (by rw [if_pos k2])⟩, fun k2 => ?_⟩
  rw [if_neg k2] at hq0 hq1
  refine Li_canPay_ok isLi_15 hs hJ.1.2.2.2.2.1 (by omega) (by omega) ⟨hs, _, rfl, fun k3 => ?_, fun k3 => ⟨q_no_i, hq0 k3⟩⟩
  refine W_remember_ok (d := d) hs hw hJ (fun σ1 f1 g1 => ⟨f1.sh hs, rfl, ?_⟩)
  refine Li_pay_ok isLi_15 (f1.sh hs) g1.1.2.2.2.2.1 (by omega) (by omega) (fun σ2 f2 g2 => ⟨f2.sh (f1.sh hs), rfl, q_no_i, hq1 k3 σ2 ((lfA_L f1).tr (l15_lo (SLi_15 f2))) (g1.life hw.push.2.2.2.2.2.1.1 (SLi_15 f2) g2)⟩)
theorem M_pay_ok (hs : q_Sh σ) (hw : WJ D P N hm L un mk tl dy tp) (hJ : MJ σ D P N L un mk tl dy tp) (hq0 : a_pay D L x y c = 0 → Q (some (.int 0)) (Th σ)) (hq1 : ¬ a_pay D L x y c = 0 → ∀ σ', Fr hi_ hi_ σ σ' → MJ σ' D P N (payL L x.toNatClampNeg y.toNatClampNeg c) (pushU hm L un) mk tl dy tp → Q (some (.int 1)) σ') : q_Call G (d + 3) 0 0 X_M_pay [.ref 159, .int x, .int y, .int c] σ Q := by
  have h6 := hw.1.F6
  refine q_enter (by decide +kernel) (Nat.le_of_ble_eq_true rfl) ?_
  have hs1 : q_Sh (Th σ) := Th_fr.sh hs
  have hJ1 : MJ (Th σ) D P N L un mk tl dy tp := hJ.th hw
  refine v_M_pay_0 hs (M_areTwo_ok hs1 hJ1.1.1 ⟨hs1, _, rfl, fun k => ⟨q_no_i, hq0 (by rw [a_pay, if_pos k])⟩, fun k => ?_⟩)
  obtain ⟨f, e, a1, a2, a3, rfl, rfl⟩ := twoN_s (by omega) k
  unfold a_pay at hq0 hq1
  rw [if_neg k, nI_clamp (by omega), nI_clamp (by omega)] at hq0 hq1
  refine M_within_ok hs1 ⟨hs1, _, rfl, fun k2 => ⟨q_no_i, hq0 (by rw [if_pos k2])⟩, fun k2 => ?_⟩
  rw [if_neg k2] at hq0 hq1
  refine M_mayPay_ok (b := 0) hs1 hJ1.2.2.1 (by decide) (by omega) (by omega) ⟨hs1, _, rfl, fun k3 => ?_, fun k3 => ⟨q_no_i, hq0 k3⟩⟩
  refine M_keeps_ok (d := d + 1) hs1 hw hJ1 (fun σ1 f1 g1 => ⟨f1.sh hs1, rfl, ?_⟩)
  refine M_pays_ok (b := 0) (d := d + 1) (f1.sh hs1) g1.2.2.1 (by decide) (by omega) (by omega) (fun σ2 f2 g2 => ⟨f2.sh (f1.sh hs1), rfl, q_no_i, hq1 k3 σ2 (Th_fr.tr ((lfM_H f1).tr (lM0_hi (SMb_0 f2)))) (g1.life hw.push (SMb_0 f2) g2)⟩)
theorem W_draw_ok (hs : q_Sh σ) (hw : WJ D P N hm L un mk tl dy tp) (hJ : CJ σ t p D P N L un mk tl dy tp) (hq0 : inN 0 x 9999 = 0 → Q (some (.int (-1))) σ) (hq1 : ¬ inN 0 x 9999 = 0 → ∀ σ', Fr lo_ lo_ σ σ' → CJ σ' t p D P N (rdL D hm L x.toNatClampNeg) (pushU hm L un) mk tl dy tp → Q (some (.int (rdG D hm L))) σ') : q_Call G (d + 5) 0 0 X_W_draw [.ref 0, .int x] σ Q := by
  refine q_enter (by decide +kernel) (Nat.le_of_ble_eq_true rfl) ?_
  refine v_W_draw_0 hs (W_isSeed_ok hs ⟨hs, _, rfl, fun k => ?_, fun k => ⟨q_no_i, hq0 k⟩⟩)
  obtain ⟨n, b1, b2, rfl⟩ := inN_s (lo := 0) (hi := 9999) (by decide) (by decide) k
  rw [nI_clamp (by omega)] at hq1
  refine W_remember_ok (d := d + 2) hs hw hJ (fun σ1 f1 g1 => ⟨f1.sh hs, rfl, ?_⟩)
  refine ⟨t, g1.1.1.1, g1.1.1.2.1, ?_⟩
  have f2 : Fr l15 l15 σ1 (q_setL σ1 12 1 (nI n).toInt64) := Fr.setL (Or.inl rfl)
  have g2 := g1.life hw.push.2.2.2.2.2.1.1 f2 (L' := L) g1.1.2.2.2.2.1
  refine Li_redraw_ok (d := d) (n := n) g1.1.1.2.1 isLi_15 (f2.sh (f1.sh hs)) hw.1 g2.1.2.2.1.1 g2.1.2.2.2.2.1 hw.2.2.2.2.1.1 (by rw [q_L_eq, nI_l (by omega)]) (by omega) (fun σ3 f3 k1 k2 => ⟨f3.sh (f2.sh (f1.sh hs)), _, rfl, q_no_i, ?_⟩)
  have f4 : Fr l15 l15 (q_setL σ1 12 1 (nI n).toInt64) σ3 := f3.mono (fun a i z => by unfold SRd at z; unfold l15; omega) (fun a i z => by unfold L12 at z; unfold l15; omega)
  exact hq1 k σ3 ((lfA_L f1).tr (l15_lo (f2.tr f4))) (g2.life hw.push.2.2.2.2.2.1.1 f4 k1)
theorem M_draw_ok (hs : q_Sh σ) (hw : WJ D P N hm L un mk tl dy tp) (hJ : MJ σ D P N L un mk tl dy tp) (hq0 : inN 0 x 9999 = 0 → Q (some (.int (-1))) (Th σ)) (hq1 : ¬ inN 0 x 9999 = 0 → ∀ σ', Fr hi_ hi_ σ σ' → MJ σ' D P N (rdL D hm L x.toNatClampNeg) (pushU hm L un) mk tl dy tp → Q (some (.int (rdG D hm L))) σ') : q_Call G (d + 3) 0 0 X_M_draw [.ref 159, .int x] σ Q := by
  refine q_enter (by decide +kernel) (Nat.le_of_ble_eq_true rfl) ?_
  have hs1 : q_Sh (Th σ) := Th_fr.sh hs
  have hJ1 : MJ (Th σ) D P N L un mk tl dy tp := hJ.th hw
  refine v_M_draw_0 hs (M_within_ok hs1 ⟨hs1, _, rfl, fun k => ?_, fun k => ⟨q_no_i, hq0 k⟩⟩)
  obtain ⟨n, b1, b2, rfl⟩ := inN_s (lo := 0) (hi := 9999) (by decide) (by decide) k
  rw [nI_clamp (by omega)] at hq1
  refine M_keeps_ok (d := d + 1) hs1 hw hJ1 (fun σ1 f1 g1 => ⟨f1.sh hs1, rfl, ?_⟩)
  have f2 : Fr lM0 lM0 σ1 (q_setL σ1 159 28 (nI n).toInt64) := Fr.setL (Or.inr (Or.inr ⟨rfl, Or.inr rfl⟩))
  have g2 := g1.life hw.push f2 (L' := L) g1.2.2.1
  refine M_draws_ok (b := 0) (d := d) (n := n) (f2.sh (f1.sh hs1)) hw.1 g2.1.1 g2.2.2.1 hw.2.2.2.2.1.1 (by decide) (by rw [q_L_eq, nI_l (by omega)]) (by omega) (fun σ3 f3 k1 k2 => ⟨f3.sh (f2.sh (f1.sh hs1)), _, rfl, q_no_i, ?_⟩)
  have f4 : Fr lM0 lM0 (q_setL σ1 159 28 (nI n).toInt64) σ3 := f3.mono (fun a i z => by unfold SMd at z; unfold lM0; omega) (fun a i z => by unfold L159 at z; unfold lM0; omega)
  exact hq1 k σ3 (Th_fr.tr ((lfM_H f1).tr (lM0_hi (f2.tr f4)))) (g2.life hw.push f4 k1)
end ACTS
