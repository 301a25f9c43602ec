theorem cP_sm {b : (Nat → Nat) → Bool} {g : Nat → (Nat → Nat) → Bool} {n : Nat} : ∀ l : List (Nat → Nat), (∀ v ∈ l, (if b v then 1 else 0) = sm (fun i => if g i v then 1 else 0) n) → l.countP b = sm (fun i => l.countP (g i)) n
  | [], _ => by rw [sm_zero n (fun i _ => by simp)]; rfl
  | v :: l, h => by
    have h1 := h v List.mem_cons_self
    have ih := cP_sm l (fun w hw => h w (List.mem_cons_of_mem _ hw))
    rw [List.countP_cons, ih, h1, ← sm_add]
    exact sm_cong n (fun i _ => by rw [List.countP_cons])
def wlS (D : Nat → Nat) : Nat := sm (fun i => if D (8 + i) = 0 then 0 else 1) 36
theorem wl_S (D : Nat → Nat) : wlN D = wlS D := by
  have : ∀ n, ((List.range n).filter (fun i => decide (D (8 + i) ≠ 0))).length = sm (fun i => if D (8 + i) = 0 then 0 else 1) n := by
    intro n
    induction n with
    | zero => rfl
    | succ n ih =>
      rw [List.range_succ, List.filter_append, List.length_append, ih, sm]
      by_cases c : D (8 + n) = 0
      · simp [c]
      · simp [c]
  exact this 36
theorem frN_0 (H : Nat) : frN 0 H = H := by
  induction H with
  | zero => rfl
  | succ n ih =>
    unfold frN at ih ⊢
    rw [sm, ih]
    simp
theorem ff_pos : ∀ r n, r ≤ n → 0 < ff n r
  | 0, _, _ => Nat.one_pos
  | r + 1, n, h => by
    rw [ff]
    exact Nat.mul_pos (by omega) (ff_pos r (n - 1) (by omega))
section ODDS
variable {G : q_G} {d : Nat} {σ σ' : q_S} {Q : Option Value → q_S → Prop} {t p : Nat} {D : Nat → Nat} {P : Nat → List Int32} {N : q_nm} {hm w : Nat → Nat} {L L' : Nat → Int32} {un un' : List q_lf} {mk mk' : Nat → Option (q_lf × q_tl)} {tl tl' : q_tl} {dy : q_dy} {tp : List Nat} {x y z c : Int32} {f e : Nat}
theorem near_N (hD : WfD D) (hW : WfW D) (hf : f < D 1) (he : e < D 1) (hne : f ≠ e) : cnt (fun w => decide (thk D w f e ≠ 0)) (wys D) (wys D).length = wlS D * ff (D 0 - 2) (D 1 - 2) := by
  have h6 := hD.2.1
  rw [cnt_all, cP_sm (g := fun i v => decide (D (8 + i) ≠ 0) && (decide (v f = i / 6) && decide (v e = i % 6))) (n := 36) (wys D) (fun v hv => ?_)]
  · unfold wlS
    rw [← sm_mul]
    refine sm_cong 36 (fun i hi => ?_)
    by_cases c0 : D (8 + i) = 0
    · rw [if_pos c0, Nat.zero_mul]
      exact cP_zero (fun v hv => by simp [c0])
    · rw [if_neg c0, Nat.one_mul]
      have e0 : 8 + i = 8 + (i / 6 * 6 + i % 6) := by omega
      have hb := hW.2 (i / 6) (i % 6) (by omega) (by omega) (by rw [← e0]; exact c0)
      have hd : i / 6 ≠ i % 6 := fun h => by
        have := hD.2.2.2.2.1 (i / 6) (by omega)
        rw [show 8 + (i / 6 * 6 + i / 6) = 8 + i by omega] at this
        exact c0 this
      rw [cP_cong (b' := fun v => decide (v f = i / 6) && decide (v e = i % 6)) (fun v hv => by simp [c0])]
      unfold wys
      rw [gw_ff2 hne hb.1 hb.2 hd (D 1) 0 0 _ (by omega) (by omega) (by omega) (by omega) (Nat.zero_testBit _) (Nat.zero_testBit _), frN_0]
  · have hvo := wys_ok hv
    have a1 := hvo.1 f hf
    have a2 := hvo.1 e he
    rw [sm_one (a := v f * 6 + v e) 36 (by omega) (fun i hi hn => ?_)]
    · have e1 : (v f * 6 + v e) / 6 = v f := by omega
      have e2 : (v f * 6 + v e) % 6 = v e := by omega
      rw [e1, e2]
      unfold thk
      simp
    · rw [if_neg]
      simp
      omega
theorem tot_N (h2 : 2 ≤ D 1) : (wys D).length = D 0 * (D 0 - 1) * ff (D 0 - 2) (D 1 - 2) := by
  unfold wys
  rw [gw_ff, frN_0]
  obtain ⟨r, hr⟩ : ∃ r, D 1 = r + 2 := ⟨D 1 - 2, by omega⟩
  rw [hr, ff, ff, Nat.mul_assoc]
  rfl
theorem wl_le (hD : WfD D) (hW : WfW D) (hf : f < D 1) (he : e < D 1) (hne : f ≠ e) : 2 * D 2 ≤ D 0 * (D 0 - 1) := by
  have h1 := near_N hD hW hf he hne
  have h2 := tot_N (D := D) (by omega)
  have h3 := cnt_le (b := fun w => decide (thk D w f e ≠ 0)) (ws := wys D) (wys D).length
  have h4 := ff_pos (D 1 - 2) (D 0 - 2) (by have := hD.1; omega)
  rw [h1, h2, ← wl_S, ← hW.1] at h3
  exact Nat.le_of_mul_le_mul_right h3 h4
def prN (D : Nat → Nat) : Nat := D 0 * (D 0 - 1) / 2
theorem pr_2 (hD : WfD D) : D 0 * (D 0 - 1) = 2 * prN D := by
  have h6 := hD.2.1
  unfold prN
  generalize D 0 = H at h6
  exact (by decide : ∀ H, H ≤ 6 → H * (H - 1) = 2 * (H * (H - 1) / 2)) H h6
theorem pr_le (hD : WfD D) : prN D ≤ 15 := by
  have h6 := hD.2.1
  unfold prN
  generalize D 0 = H at h6
  exact (by decide : ∀ H, H ≤ 6 → H * (H - 1) / 2 ≤ 15) H h6
theorem pr_pos (hD : WfD D) (h2 : 2 ≤ D 1) : 0 < prN D := by
  have h6 := hD.2.1
  have h1 := hD.1
  unfold prN
  generalize D 0 = H at h6 h1
  exact (by decide : ∀ H, H ≤ 6 → 2 ≤ H → 0 < H * (H - 1) / 2) H h6 (by omega)
def a_odds (D : Nat → Nat) (x y : Int32) : Int32 := if twoN (D 1) x y = 0 then -1 else nI (D 2 * 1000000 / prN D)
theorem Tw_pairsN_ok (ht : q_isTw t) (hs : q_Sh σ) (hD : WfD D) (hT : CT0 σ t D P) (hq : Q (some (.int (nI (prN D)))) σ) : q_Call G d 0 0 X_Tw_housePairs [.ref t] σ Q := by
  have h6 := hD.2.1
  refine q_ci (by decide +kernel) (Nat.le_of_ble_eq_true rfl) (fun Q hq => ?_) hq
  refine v_Tw_housePairs_0 ht hs ?_
  rw [hT.1.1]
  have : nI (D 0) * (nI (D 0) - 1) / 2 = nI (prN D) := by
    unfold prN
    generalize D 0 = H at h6
    exact (by decide : ∀ H, H ≤ 6 → nI H * (nI H - 1) / 2 = nI (H * (H - 1) / 2)) H h6
  rw [this]
  exact hq
theorem W_odds_ok (hs : q_Sh σ) (hw : WJ D P N hm L un mk tl dy tp) (hJ : CJ0 σ t p D P N L un mk tl dy tp) (hq : Q (some (.int (a_odds D x y))) σ) : q_Call G (d + 2) 0 0 X_W_odds [.ref 0, .int x, .int y] σ Q := by
  have h6 := hw.1.F6
  refine q_ci (by decide +kernel) (Nat.le_of_ble_eq_true rfl) (fun Q hv => ?_) hq
  refine v_W_odds_0 hs ⟨t, hJ.1.1, hJ.1.2.1, Tw_pairsN_ok hJ.1.2.1 hs hw.1 hJ.2.2.1.1 ⟨hs, _, rfl, W_areTwo_ok hs hJ ⟨hs, _, rfl, fun k => ?_, fun k => ?_⟩⟩⟩
  · rw [a_odds, if_pos k] at hv; exact hv
  · rw [a_odds, if_neg k] at hv
    obtain ⟨f, e, a1, a2, a3, rfl, rfl⟩ := twoN_s (by omega) k
    have p1 := pr_pos hw.1 (by omega)
    have p2 := pr_le hw.1
    have wl := wl_le hw.1 hw.2.2.1 a1 a2 a3
    rw [pr_2 hw.1] at wl
    refine ⟨fun _ => ⟨t, hJ.1.1, hJ.1.2.1, nI_ne0 p1 (by omega), ?_⟩, fun c => absurd (nI_le (a := 1) p1 (by omega)) c⟩
    rw [hJ.2.2.1.1.1.2.2.1, q_lit 1000000, pk_mul, pk_div (by omega) p1 (by omega)]
    exact hv
theorem M_waysNear_ok (hs : q_Sh σ) (hw : WJ D P N hm L un mk tl dy tp) (hJ : MJ σ D P N L un mk tl dy tp) (hM : MWs σ D (wys D)) (hf : f < D 1) (he : e < D 1) (hq : ∀ σ', Fr qW noL σ σ' → Q (some (.int (nI (cnt (fun w => decide (thk D w f e ≠ 0)) (wys D) (wys D).length)))) σ') : q_Call G (d + 2) 0 0 X_M_waysNear [.ref 159, .int (nI f), .int (nI e)] σ Q := by
  have h6 := hw.1.F6
  have hl := wys_len hw.1
  refine q_cii (Pp := fun v σ' => v = nI (cnt (fun w => decide (thk D w f e ≠ 0)) (wys D) (wys D).length) ∧ Fr qW noL σ σ') (by decide +kernel) (Nat.le_of_ble_eq_true rfl) (fun Q hq => ?_) (fun v σ' h => by rw [h.1]; exact hq σ' h.2)
  refine v_M_waysNear_0 hs ?_
  refine up_ind (R := fun k => ∀ σ2, Fr qW noL σ σ2 → q_At G X_M_waysNear (d + 2) 0 0 5 [some (.ref 159), some (.int (nI f)), some (.int (nI e)), some (.int (nI (cnt (fun w => decide (thk D w f e ≠ 0)) (wys D) k))), some (.int (nI k))] [] σ2 Q) (n := (wys D).length) (fun σ2 f2 => ?_) (fun k hk ih σ2 f2 => ?_) 0 (Nat.zero_le _) σ Fr.rf
  · exact v_M_waysNear_5 (f2.sh hs) ⟨fun _ => hq _ _ ⟨rfl, f2⟩, fun c => absurd (by rw [(hM.qw f2).1]; exact Int32.le_refl _) c⟩
  · obtain ⟨w, hwk⟩ := get_some hk
    rw [cnt_s hwk] at ih
    refine v_M_waysNear_5 (f2.sh hs) ⟨fun c => by rw [(hM.qw f2).1] at c; exact ge_not c hk (by omega), fun _ => ?_⟩
    refine M_laysWay_ok (d := d) (f2.sh hs) hw.1 (hJ.qm hw (qW_qM f2)).1.1 (hM.qw f2) hwk (fun σ3 f3 g3 => ⟨f3.sh (f2.sh hs), rfl, ?_⟩)
    have f4 := f2.tr (SMo_q f3)
    have h9 := thk_le (f := f) (e := e) hw.1 (g3 f hf).2 (g3 e he).2
    refine M_wallBy_ok (b := 1804) (f4.sh hs) hw.1 (hJ.qm hw (qW_qM f4)).1.1 g3 (by decide) hf he ⟨f4.sh hs, _, rfl, ?_⟩
    simp only [le0_iff (show thk D w f e < 2 ^ 31 by omega)]
    rw [nI_1]
    by_cases c : thk D w f e = 0
    · rw [if_neg (by simp [c]), Nat.add_zero] at ih
      rw [if_pos c, Int32.add_zero]
      exact ih σ3 f4
    · rw [if_pos (by simp [c])] at ih
      rw [if_neg c, nI_1]
      exact ih σ3 f4
theorem M_odds_ok (hs : q_Sh σ) (hw : WJ D P N hm L un mk tl dy tp) (hJ : MJ σ D P N L un mk tl dy tp) (hq : ∀ σ', Fr hi_ hi_ σ σ' → MJ σ' D P N L un mk tl dy tp → Q (some (.int (a_odds D x y))) σ') : q_Call G (d + 9) 0 0 X_M_odds [.ref 159, .int x, .int y] σ Q := by
  have h6 := hw.1.F6
  have hl := wys_len hw.1
  refine q_cii (Pp := fun v σ' => v = a_odds D x y ∧ Fr hi_ hi_ σ σ' ∧ MJ σ' D P N L un mk tl dy tp) (by decide +kernel) (Nat.le_of_ble_eq_true rfl) (fun Q hq => ?_) (fun v σ' h => by rw [h.1]; exact hq σ' h.2.1 h.2.2)
  have hs1 : q_Sh (Th σ) := Th_fr.sh hs
  have hJ1 : MJ (Th σ) D P N L un mk tl dy tp := hJ.th hw
  refine v_M_odds_0 hs (M_areTwo_ok (d := d + 6) hs1 hJ1.1.1 ⟨hs1, _, rfl, fun k => ?_, fun k => hq _ _ ⟨by rw [a_odds, if_pos k], Th_fr, hJ1⟩⟩)
  obtain ⟨f, e, a1, a2, a3, rfl, rfl⟩ := twoN_s (by omega) k
  refine M_findWays_ok (d := d) hs1 hw.1 hJ1.1.1 (fun σ1 f1 g1 => ⟨f1.sh hs1, rfl, ?_⟩)
  have hJ2 := hJ1.qm hw (SMl_q f1)
  refine M_waysNear_ok (d := d + 6) (f1.sh hs1) hw hJ2 g1 a1 a2 (fun σ2 f2 => ⟨f2.sh (f1.sh hs1), _, rfl, ?_⟩)
  have eW := (g1.qw f2).1
  dsimp only
  rw [eW]
  refine ⟨nz64 hl.2 (by omega), hq _ _ ⟨?_, Th_fr.tr ((qM_H (SMl_q f1)).tr (qM_H (qW_qM f2))), hJ2.qm hw (qW_qM f2)⟩⟩
  have cl := cnt_le (b := fun w => decide (thk D w f e ≠ 0)) (ws := wys D) (wys D).length
  rw [a_odds, if_neg k, nI_l (by omega), nI_l (by omega), q_litL 1000000, lN_mul, pk_lDiv (by omega) hl.2 (by omega), lN_i]
  refine congrArg nI ?_
  have h4 := ff_pos (D 1 - 2) (D 0 - 2) (by have := hw.1.1; omega)
  rw [near_N hw.1 hw.2.2.1 a1 a2 a3, tot_N (by omega), ← wl_S, ← hw.2.2.1.1, pr_2 hw.1]
  rw [show 2 * D 2 * ff (D 0 - 2) (D 1 - 2) * 1000000 = (2 * ff (D 0 - 2) (D 1 - 2)) * (D 2 * 1000000) by
    rw [Nat.mul_comm (2 * D 2), Nat.mul_comm 2 (D 2), Nat.mul_assoc, Nat.mul_assoc, Nat.mul_comm 2 (ff _ _), Nat.mul_assoc, Nat.mul_comm 2 1000000, ← Nat.mul_assoc (D 2), Nat.mul_comm 2 (D 2 * 1000000)], show 2 * prN D * ff (D 0 - 2) (D 1 - 2) = (2 * ff (D 0 - 2) (D 1 - 2)) * prN D by
    rw [Nat.mul_assoc, Nat.mul_comm (prN D), ← Nat.mul_assoc]]
  exact Nat.mul_div_mul_left _ _ (by omega)
end ODDS
