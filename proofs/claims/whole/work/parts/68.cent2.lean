def trC : Nat → Nat → Prop := fun a i => tr_ a i ∨ Sc a i
def mtC : Nat → Nat → Prop := fun a i => (a = 175 ∧ 1804 ≤ i) ∨ a = 178 ∨ a = 173 ∨ a = 174
section CENT
variable {G : q_G} {d : Nat} {σ σ' : q_S} {Q : Option Value → q_S → Prop} {t p k : Nat} {D : Nat → Nat} {P : Nat → List Int32} {N : q_nm} {hm w : Nat → Nat} {L L' : Nat → Int32} {un un' : List q_lf} {mk mk' : Nat → Option (q_lf × q_tl)} {tl tl' : q_tl} {dy : q_dy} {tp : List Nat} {x y z c u v : Int32} {f e : Nat} {g : Nat → Nat} {kb : Nat → Nat → Nat}
theorem CJ.trc (hw : WJ D P N hm L un mk tl dy tp) (hJ : CJ σ t p D P N L un mk tl dy tp) (hf : Fr trC tr_ σ σ') : CJ σ' t p D P N L un mk tl dy tp := by
  have ht := isTw_cases hJ.1.1.2.1
  have hp := isDy_cases hJ.1.2.1.2.1
  refine ⟨hJ.1.fr hw.2.2.2.2.2.1.1 hf (fun a i z => ?_) (fun a i z => by unfold tr_ at z; unfold cjL; omega), hJ.2.fr hf (fun a i z => ?_) (fun a i z => by unfold tr_ at z; omega)⟩
  · rcases z with z | z
    · unfold tr_ at z; unfold cj TC; omega
    · exact Sc_cj hJ.1.1.2.1 hJ.1.2.1.2.1 z
  · rcases z with z | z
    · unfold tr_ at z; omega
    · unfold Sc at z; omega
theorem trC_lo (hf : Fr trC tr_ σ σ') : Fr lo_ lo_ σ σ' := hf.lo (fun a i z => by rcases z with z | z; (unfold tr_ at z; omega); exact Sc_lo z) (fun a i z => by unfold tr_ at z; omega)
theorem tr_C (hf : Fr tr_ tr_ σ σ') : Fr trC tr_ σ σ' := hf.mono (fun _ _ z => Or.inl z) (fun _ _ z => z)
theorem Sc_C (hf : Fr Sc noL σ σ') : Fr trC tr_ σ σ' := hf.mono (fun _ _ z => Or.inr z) (fun _ _ z => z.elim)
theorem W_centuries_ok (hg : g = rN) (hkb : kb = bN) (hs : q_Sh σ) (hw : WJ D P N hm L un mk tl dy tp) (hJ : CJ σ t p D P N L un mk tl dy tp) (hq : ∀ σ', Fr lo_ lo_ σ σ' → CJ σ' t p D P N L un mk tl dy tp → Q (some (.int (a_cent g kb D hm P L x y z))) σ') : q_Call G (d + 5) 0 0 X_W_centuries [.ref 0, .int x, .int y, .int z] σ Q := by
  refine q_cii (Pp := fun v σ' => v = a_cent g kb D hm P L x y z ∧ Fr lo_ lo_ σ σ' ∧ CJ σ' t p D P N L un mk tl dy tp) (by decide +kernel) (Nat.le_of_ble_eq_true rfl) (fun Q hv => ?_) (fun v σ' h => by rw [h.1]; exact hq σ' h.2.1 h.2.2)
  have no : a_cent g kb D hm P L x y z = -1 → Q (some (.int (-1))) σ := fun k => hv _ _ ⟨k.symm, Fr.rf, hJ⟩
  refine v_W_centuries_0 hs (W_isSeed_ok hs ⟨hs, _, rfl, fun c1 => no (by rw [a_cent, if_pos c1]), fun c1 => ⟨fun k1 => no ?_, fun k1 => ⟨fun k2 => no ?_, fun k2 => ⟨fun k3 => no ?_, fun k3 => ⟨fun k4 => ?_, fun k4 => no ?_⟩⟩⟩⟩⟩)
  · rw [a_cent, if_neg c1, if_pos (by rw [inN, if_pos k1])]
  · rw [a_cent, if_neg c1, if_pos (by rw [inN, if_neg k1, if_pos k2])]
  · rw [a_cent, if_neg c1, if_neg (by rw [inN, if_neg k1, if_neg k2]; decide), if_pos (by rw [inN, if_pos k3])]
  · have n2 : ¬ inN 1 y 60 = 0 := by rw [inN, if_neg k1, if_neg k2]; decide
    have n3 : ¬ inN 0 z 2 = 0 := by rw [inN, if_neg k3, if_neg (Int32.not_lt.mpr k4)]; decide
    obtain ⟨n, _, hn, rfl⟩ := inN_s (lo := 0) (hi := 9999) (by decide) (by decide) c1
    obtain ⟨m, _, hm2, rfl⟩ := inN_s (lo := 1) (hi := 60) (by decide) (by decide) n2
    have ev : a_cent g kb D hm P L (nI n) (nI m) z = if z = 0 then (cyS g kb D P (hm, upd L 49 0, n) m).2.1 else if z = 1 then (cyS g kb D P (hm, upd L 49 0, n) m).2.2 else (cyS g kb D P (hm, upd L 49 0, n) m).1.2.1 49 := by
      rw [a_cent, if_neg c1, if_neg n2, if_neg n3, nI_clamp (by omega), nI_clamp (by omega)]
    rw [ev] at hv
    have hW0 := hw.2.2.2.2.1
    have hcy := cyS_W (P := P) (s := (hm, upd L 49 0, n)) hg hkb hw.1 (WL_49 hw.1 hW0) (show n < 2147483648 by omega)
    refine Li_become_ok (d := d + 3) isLi_19' (u := 15) isLi_15 (by decide) hs hJ.1.2.2.2.2.1 (fun σ1 f1 g1 => ⟨f1.sh hs, rfl, ?_⟩)
    have f1' : Fr trC tr_ σ σ1 := f1.mono (fun a i z => Or.inl (by unfold SLi at z; unfold tr_; omega)) (fun _ _ z => z.elim)
    have f2 : Fr trC tr_ σ (q_setL (q_setI σ1 19 4 0) 12 1 (nI n).toInt64) := (f1'.tr (Fr.setI (Or.inl (by unfold tr_; omega)))).tr (Fr.setL (by unfold tr_; omega))
    have g2 : CL (q_setL (q_setI σ1 19 4 0) 12 1 (nI n).toInt64) 19 (upd L 49 0) := g1.sLp
    refine up_ind (R := fun k => ∀ σ1, Fr trC tr_ σ σ1 → CL σ1 19 (cyS g kb D P (hm, upd L 49 0, n) k).1.2.1 → q_L σ1 12 1 = lN (cyS g kb D P (hm, upd L 49 0, n) k).1.2.2 → q_At G X_W_centuries (d + 5) 0 0 66 [some (.ref 0), some (.int (nI n)), some (.int (nI m)), some (.int z), some (.int (cyS g kb D P (hm, upd L 49 0, n) k).2.1), some (.int (cyS g kb D P (hm, upd L 49 0, n) k).2.2), some (.int (nI k))] [] σ1 Q) (n := m) (fun σ1 fr g1 _ => ?_) (fun k hk ih σ1 fr g1 l1 => ?_) 0 (Nat.zero_le _) _ f2 g2 (by rw [q_L_eq, nI_l (by omega)]; rfl)
    · refine v_W_centuries_66 (fr.sh hs) ⟨fun _ => ?_, fun c => absurd (Int32.le_refl _) c⟩
      rw [show q_I σ1 19 4 = _ from g1.lp]
      exact hv _ _ ⟨rfl, trC_lo fr, hJ.trc hw fr⟩
    · have hJ1 := hJ.trc hw fr
      have hs1 := fr.sh hs
      obtain ⟨hc1, hc2⟩ := hcy k
      rw [cyS] at ih
      have ht := hJ1.1.1.2.1
      have wl := WL_lyr (g := g) (n := (cyS g kb D P (hm, upd L 49 0, n) k).1.2.2) hkb hw.1 hc1
      refine v_W_centuries_66 hs1 ⟨fun c => ge_not c hk (by omega), fun _ => ⟨t, hJ1.1.1.1, ht, ?_⟩⟩
      refine Li_years_ok (d := d) hg hkb ht isLi_19' hs1 hw.1 hJ1.1.2.2.1.1 g1 hc1 l1 hc2 (fun σ2 f2 g2 l2 => ⟨f2.sh hs1, rfl, ?_⟩)
      have F2 : Fr trC tr_ σ σ2 := fr.tr (f2.mono (fun a i z => Or.inl (by unfold SLi at z; unfold tr_; omega)) (fun a i z => by unfold L12 at z; unfold tr_; omega))
      have hJ2 := hJ.trc hw F2
      have hs2 := F2.sh hs
      refine ⟨t, hJ2.1.1.1, ht, Li_redraw_ok (d := d) ht isLi_19' hs2 hw.1 hJ2.1.2.2.1.1 g2 wl.1 l2 (lyr_lt hg hc2) (fun σ3 f3 g3 l3 => ⟨f3.sh hs2, _, rfl, ?_⟩)⟩
      have F3 : Fr trC tr_ σ σ3 := F2.tr (tr_C (SRd_tr f3))
      have hJ3 := hJ.trc hw F3
      have hs3 := F3.sh hs
      have wl3 := WL_rd (n := (lyr g kb D (cyS g kb D P (hm, upd L 49 0, n) k).1.1 (cyS g kb D P (hm, upd L 49 0, n) k).1.2.1 (cyS g kb D P (hm, upd L 49 0, n) k).1.2.2).2.2) hw.1 wl
      refine ⟨t, hJ3.1.1.1, ht, Tw_content_ok (d := d) (h := 20) ht (by decide +kernel) hs3 hw.1 hw.2.1 hJ3.1.2.2.1 (g3.HM (v := 19) hw.1 wl3.1) (fun σ4 f4 => ⟨f4.sh hs3, _, rfl, ?_⟩)⟩
      have F4 := F3.tr (Sc_C f4)
      have hJ4 := hJ.trc hw F4
      have hs4 := F4.sh hs
      have g4 : CL σ4 19 _ := g3.keep (fun a i b1 b2 => f4.2.2.1 _ _ (fun z => by unfold Sc at z; omega))
      refine JI_bitCount_ok hs4 ⟨hs4, _, rfl, t, hJ4.1.1.1, ht, Tw_pairs_ok (d := d + 1) (h := 20) ht (by decide +kernel) hs4 hw.1 hJ4.1.2.2.1.1 (g4.HM (v := 19) hw.1 wl3.1) ⟨hs4, _, rfl, Tw_broken_ok ht hs4 hw.1 hJ4.1.2.2.1.1 ⟨hs4, _, rfl, JI_bitCount_ok hs4 ⟨hs4, _, rfl, ?_⟩⟩⟩⟩
      rw [brkm_prs hw.1 (fun f hf => (wl3.1 f hf).2), bc_cont hw.1, bc_brk hw.1, nI_1]
      exact ih σ4 F4 g4 (by rw [f4.2.2.2 _ _ (fun z => z)]; exact l3)
  · rw [a_cent, if_neg c1, if_neg (by rw [inN, if_neg k1, if_neg k2]; decide), if_pos (by rw [inN, if_neg k3, if_pos (Int32.not_le.mp k4)])]
theorem MJ.mtc (hw : WJ D P N hm L un mk tl dy tp) (hJ : MJ σ D P N L un mk tl dy tp) (hf : Fr mtC L159 σ σ') : MJ σ' D P N L un mk tl dy tp := hJ.fr hw hf (fun a i z => by unfold mtC at z; unfold mj; omega) (fun a i z => by unfold L159 at z; unfold mjL; omega)
theorem mtC_H (hf : Fr mtC L159 σ σ') : Fr hi_ hi_ σ σ' := hf.hi (fun a i z => by unfold mtC at z; omega) (fun a i z => by unfold L159 at z; omega)
theorem M_centuries_ok (hg : g = rN) (hkb : kb = bN) (hs : q_Sh σ) (hw : WJ D P N hm L un mk tl dy tp) (hJ : MJ σ D P N L un mk tl dy tp) (hq : ∀ σ', Fr hi_ hi_ σ σ' → MJ σ' D P N L un mk tl dy tp → Q (some (.int (a_cent g kb D hm P L x y z))) σ') : q_Call G (d + 4) 0 0 X_M_centuries [.ref 159, .int x, .int y, .int z] σ Q := by
  refine q_cii (Pp := fun v σ' => v = a_cent g kb D hm P L x y z ∧ Fr hi_ hi_ σ σ' ∧ MJ σ' D P N L un mk tl dy tp) (by decide +kernel) (Nat.le_of_ble_eq_true rfl) (fun Q hv => ?_) (fun v σ' h => by rw [h.1]; exact hq σ' h.2.1 h.2.2)
  have hs0 : q_Sh (Th σ) := Th_fr.sh hs
  have hJ0 : MJ (Th σ) D P N L un mk tl dy tp := hJ.th hw
  have no : a_cent g kb D hm P L x y z = -1 → Q (some (.int (-1))) (Th σ) := fun k => hv _ _ ⟨k.symm, Th_fr, hJ0⟩
  refine v_M_centuries_0 hs (M_within_ok hs0 ⟨hs0, _, rfl, fun c1 => no (by rw [a_cent, if_pos c1]), fun c1 => M_within_ok hs0 ⟨hs0, _, rfl, fun n2 => no (by rw [a_cent, if_neg c1, if_pos n2]), fun n2 => M_within_ok hs0 ⟨hs0, _, rfl, fun n3 => ?_, fun n3 => no (by rw [a_cent, if_neg c1, if_neg n2, if_pos n3])⟩⟩⟩)
  obtain ⟨n, _, hn, rfl⟩ := inN_s (lo := 0) (hi := 9999) (by decide) (by decide) c1
  obtain ⟨m, _, hm2, rfl⟩ := inN_s (lo := 1) (hi := 60) (by decide) (by decide) n2
  have ev : a_cent g kb D hm P L (nI n) (nI m) z = if z = 0 then (cyS g kb D P (hm, upd L 49 0, n) m).2.1 else if z = 1 then (cyS g kb D P (hm, upd L 49 0, n) m).2.2 else (cyS g kb D P (hm, upd L 49 0, n) m).1.2.1 49 := by
    rw [a_cent, if_neg c1, if_neg n2, if_neg n3, nI_clamp (by omega), nI_clamp (by omega)]
  rw [ev] at hv
  have hW0 := hw.2.2.2.2.1
  have h6 := hw.1.F6
  have hcy := cyS_W (P := P) (s := (hm, upd L 49 0, n)) hg hkb hw.1 (WL_49 hw.1 hW0) (show n < 2147483648 by omega)
  refine M_copies_ok (b := 0) (b' := 1804) (n := 50) hs0 (Or.inl (by decide)) (by decide) (by decide) (fun σ1 f1 g1 => ⟨f1.sh hs0, rfl, ?_⟩)
  have f1' : Fr mtC L159 (Th σ) σ1 := f1.mono (fun a i z => by unfold SMr at z; unfold mtC; omega) (fun _ _ z => z.elim)
  have f2 : Fr mtC L159 (Th σ) (q_setL σ1 159 28 (nI n).toInt64) := f1'.tr (Fr.setL ⟨rfl, rfl⟩)
  have g2 : ML (q_setL σ1 159 28 (nI n).toInt64) 1804 L := fun i hi => by
    rw [q_I_setL, g1 i hi]
    exact hJ0.2.2.1 i hi
  have o2 : offL (L 49) (cyS g kb D P (hm, upd L 49 0, n) 0).1.2.1 L := ⟨fun i hi => (upd_ne (by omega)).symm, by show L 49 = upd L 49 0 49 + L 49; rw [upd_at, Int32.zero_add]⟩
  refine up_ind (R := fun k => ∀ σ1 (B : Nat → Int32), Fr mtC L159 (Th σ) σ1 → ML σ1 1804 B → offL (L 49) (cyS g kb D P (hm, upd L 49 0, n) k).1.2.1 B → q_L σ1 159 28 = lN (cyS g kb D P (hm, upd L 49 0, n) k).1.2.2 → q_At G X_M_centuries (d + 4) 0 0 62 [some (.ref 159), some (.int (nI n)), some (.int (nI m)), some (.int z), some (.int (cyS g kb D P (hm, upd L 49 0, n) k).2.1), some (.int (cyS g kb D P (hm, upd L 49 0, n) k).2.2), some (.int (nI k))] [] σ1 Q) (n := m) (fun σ1 B fr g1 o1 _ => ?_) (fun k hk ih σ1 B fr g1 o1 l1 => ?_) 0 (Nat.zero_le _) _ L f2 g2 o2 (by rw [q_L_eq, nI_l (by omega)]; rfl)
  · have hJ1 := hJ0.mtc hw fr
    have e1 : q_I σ1 175 1853 = B 49 := g1 49 (by decide)
    have e2 : q_I σ1 175 49 = L 49 := by have := hJ1.2.2.1 49 (by decide); rwa [Nat.zero_add] at this
    refine v_M_centuries_62 (fr.sh hs0) ⟨fun _ => ⟨fun q0 => ⟨fun q1 => hv _ _ ⟨?_, Th_fr.tr (mtC_H fr), hJ1⟩, fun q1 => hv _ _ ⟨?_, Th_fr.tr (mtC_H fr), hJ1⟩⟩, fun q0 => hv _ _ ⟨?_, Th_fr.tr (mtC_H fr), hJ1⟩⟩, fun c => absurd (Int32.le_refl _) c⟩
    · rw [if_neg q0, if_neg q1, e1, e2, o1.2, Int32.add_sub_cancel]
    · rw [if_neg q0, if_pos q1]
    · rw [if_pos q0]
  · have hJ1 := hJ0.mtc hw fr
    have hs1 := fr.sh hs0
    obtain ⟨hc1, hc2⟩ := hcy k
    rw [cyS] at ih
    obtain ⟨r1, r2, r3⟩ := off_lyr (g := g) (hm := (cyS g kb D P (hm, upd L 49 0, n) k).1.1) (n := (cyS g kb D P (hm, upd L 49 0, n) k).1.2.2) hkb h6 o1
    have wl := WL_lyr (g := g) (n := (cyS g kb D P (hm, upd L 49 0, n) k).1.2.2) hkb hw.1 hc1
    have wl3 := WL_rd (n := (lyr g kb D (cyS g kb D P (hm, upd L 49 0, n) k).1.1 (cyS g kb D P (hm, upd L 49 0, n) k).1.2.1 (cyS g kb D P (hm, upd L 49 0, n) k).1.2.2).2.2) hw.1 wl
    refine v_M_centuries_62 hs1 ⟨fun c => ge_not c hk (by omega), fun _ => ?_⟩
    refine M_years_ok (d := d) hg hkb hs1 hw.1 hJ1.1.1 g1 (WL_off hw.1 o1 hc1) l1 hc2 (fun σ2 f2 g2 l2 => ⟨f2.sh hs1, rfl, ?_⟩)
    rw [r1, r2] at g2
    rw [r2] at l2
    have o3 := off_rdL (hm := (lyr g kb D (cyS g kb D P (hm, upd L 49 0, n) k).1.1 (cyS g kb D P (hm, upd L 49 0, n) k).1.2.1 (cyS g kb D P (hm, upd L 49 0, n) k).1.2.2).1) (n := (lyr g kb D (cyS g kb D P (hm, upd L 49 0, n) k).1.1 (cyS g kb D P (hm, upd L 49 0, n) k).1.2.1 (cyS g kb D P (hm, upd L 49 0, n) k).1.2.2).2.2) h6 r3
    have F2 : Fr mtC L159 (Th σ) σ2 := fr.tr (f2.mono (fun a i z => by unfold SMd at z; unfold mtC; omega) (fun _ _ z => z))
    have hJ2 := hJ0.mtc hw F2
    have hs2 := F2.sh hs0
    have wB := WL_off hw.1 o3 wl3
    refine M_content_ok (d := d) (b := 1804) hs2 hw.1 hw.2.1 hJ2.1 (g2.HB hw.1 wB.1) (by decide) (fun σ3 f3 => ⟨f3.sh hs2, _, rfl, ?_⟩)
    have F3 : Fr mtC L159 (Th σ) σ3 := F2.tr (f3.mono (fun a i z => by unfold Sm at z; unfold mtC; omega) (fun _ _ z => z.elim))
    have hJ3 := hJ0.mtc hw F3
    have hs3 := F3.sh hs0
    have g3 : ML σ3 1804 _ := g2.keep (fun i b1 b2 => f3.2.2.1 _ _ (fun z => by unfold Sm at z; omega))
    refine M_broken_ok (d := d + 2) (b := 1804) hs3 hw.1 hJ3.1.1 (g3.HB hw.1 wB.1) (by decide) ⟨hs3, _, rfl, M_bits_ok hs3 ⟨hs3, _, rfl, ?_⟩⟩
    rw [nI_1]
    exact ih σ3 _ F3 g3 o3 (by rw [f3.2.2.2 _ _ (fun z => z)]; exact l2)
end CENT
