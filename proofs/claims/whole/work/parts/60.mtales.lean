section MTALES
variable {G : q_G} {d : Nat} {σ σ' : q_S} {Q : Option Value → q_S → Prop} {t p : Nat} {D : Nat → Nat} {P : Nat → List Int32} {N : q_nm} {hm w : Nat → Nat} {L L' : Nat → Int32} {un un' : List q_lf} {mk mk' : Nat → Option (q_lf × q_tl)} {tl tl' : q_tl} {dy : q_dy} {tp : List Nat} {x y z c : Int32}
theorem asT_take {k : Nat} {v : Nat × Nat × Bool} (h : tl[k]? = some v) : asT D w (tl.take (k + 1)) = (asT D w (tl.take k) && (decide (thk D w v.1 v.2.1 ≠ 0) == v.2.2)) := by
  unfold asT
  rw [List.take_succ, h, List.all_append]
  simp
theorem asT_false {k : Nat} (h : asT D w (tl.take k) = false) : asT D w tl = false := by
  unfold asT at *
  rw [← List.take_append_drop k tl, List.all_append, h, Bool.false_and]
theorem M_told_ok (hs : q_Sh σ) (hD : WfD D) (hT : MT0 σ D P) (hB : HB σ 1804 D w) (hw : WT D tl) (ht : MTl σ 0 tl) (hq : Q (some (.int (if asT D w tl then 1 else 0))) σ) : q_Call G (d + 1) 0 0 X_M_isAsTold [.ref 159] σ Q := by
  have hl := hw.1
  have hD0 := hD.2.1
  refine q_ci (by decide +kernel) (Nat.le_of_ble_eq_true rfl) (fun Q hq => ?_) hq
  refine v_M_isAsTold_0 hs ?_
  have eT : q_I σ 175 50 = nI tl.length := ht.1
  have nb : ∀ b : Bool, narrow .boolean (.int (if b then (1 : Int32) else 0)) = .int (if b then (1 : Int32) else 0) := fun b => by cases b <;> rfl
  refine up_ind (R := fun k => q_At G X_M_isAsTold (d + 1) 0 0 4 [some (.ref 159), some (.int (if asT D w (tl.take k) then 1 else 0)), some (.int (nI k)), none] [] σ Q) (n := tl.length) ?_ (fun k hk ih => ?_) 0 (Nat.zero_le _)
  · refine v_M_isAsTold_4 hs ⟨fun _ => ⟨nb _, ?_⟩, fun c => absurd (by rw [eT]; exact Int32.le_refl _) c⟩
    rw [List.take_length]
    exact hq
  · obtain ⟨v, hv⟩ : ∃ v, tl[k]? = some v := ⟨tl[k], List.getElem?_eq_getElem hk⟩
    obtain ⟨a1, a2, a3⟩ := hw.2 v (List.mem_of_getElem? hv)
    obtain ⟨b1, b2, b3⟩ := ht.2 k v hv
    rw [Nat.zero_add] at b1 b2 b3
    refine v_M_isAsTold_4 hs ⟨fun c => by rw [eT] at c; exact ge_not c hk (by omega), fun _ => ⟨fun c => ⟨nb _, ?_⟩, fun c => ?_⟩⟩
    · rw [if10] at c
      have c2 : asT D w (tl.take k) = false := by simpa using c
      rw [c2]
      rw [asT_false c2] at hq
      exact hq
    · rw [if10, Classical.not_not] at c
      rw [asT_take hv, c, Bool.true_and] at ih
      have e1 : 51 + 3 * nI k = nI (51 + 3 * k) := by rw [q_lit 3, q_lit 51, pk_mul, nI_add]
      refine ⟨51 + 3 * k, e1, by omega, 52 + 3 * k, by rw [e1, nI_1]; congr 1; omega, by omega, ?_⟩
      rw [b1, b2]
      have h9 := thk_le (f := v.1) (e := v.2.1) hD (hB _ a1).2 (hB _ a2).2
      refine M_wallBy_ok (b := 1804) hs hD hT hB (by decide) a1 a2 ⟨hs, _, rfl, 53 + 3 * k, by rw [e1, q_lit 2, nI_add]; congr 1; omega, by omega, ?_⟩
      rw [b3, nI_1]
      have e2 : (if (if nI (thk D w v.1 v.2.1) ≤ 0 then (0 : Int32) else 1) = (if (if v.2.2 = true then (1 : Int32) else 0) = 1 then (1 : Int32) else 0) then (1 : Int32) else 0) = if (decide (thk D w v.1 v.2.1 ≠ 0) == v.2.2) = true then 1 else 0 := by
        simp only [le0_iff (show thk D w v.1 v.2.1 < 2 ^ 31 by omega)]
        by_cases q1 : thk D w v.1 v.2.1 = 0 <;> cases hb : v.2.2 <;> simp [q1]
      rw [e2]
      exact ih
def S181 : Nat → Nat → Prop := fun a _ => a = 181
theorem M_counts_ok (hs : q_Sh σ) (hD : WfD D) (hT : MT0 σ D P) (hB : HB σ 1804 D w) (hq : ∀ σ', Fr S181 noL σ σ' → (∀ f e, f < D 1 → e < D 1 → q_I σ' 181 (6 * f + e) = q_I σ 181 (6 * f + e) + (if thk D w f e = 0 then 0 else 1)) → Q none σ') : q_Call G (d + 1) 0 0 X_M_countsNear [.ref 159] σ Q := by
  have h6 := hD.F6
  refine q_cv0 (P := fun σ' => Fr S181 noL σ σ' ∧ (∀ f e, f < D 1 → e < D 1 → q_I σ' 181 (6 * f + e) = q_I σ 181 (6 * f + e) + (if thk D w f e = 0 then 0 else 1))) (by decide +kernel) (Nat.le_of_ble_eq_true rfl) (fun Q hq => ?_) (fun σ' h => hq σ' h.1 h.2)
  have kT : ∀ σ1, Fr S181 noL σ σ1 → MT0 σ1 D P := fun σ1 fr => hT.fr fr (fun a i z => by unfold S181 at z; omega)
  have kB : ∀ σ1, Fr S181 noL σ σ1 → HB σ1 1804 D w := fun σ1 fr f hf => ⟨by rw [fr.2.2.1 _ _ (fun z => by unfold S181 at z; omega)]; exact (hB f hf).1, (hB f hf).2⟩
  refine v_M_countsNear_0 hs ?_
  refine up_ind (R := fun k => ∀ σ1, Fr S181 noL σ σ1 → (∀ f e, f < D 1 → e < D 1 → q_I σ1 181 (6 * f + e) = if f < k then q_I σ 181 (6 * f + e) + (if thk D w f e = 0 then 0 else 1) else q_I σ 181 (6 * f + e)) → q_At G X_M_countsNear (d + 1) 0 0 2 [some (.ref 159), some (.int (nI k)), none] [] σ1 Q) (n := D 1) (fun σ1 fr g1 => ?_) (fun k hk ih σ1 fr g1 => ?_) 0 (Nat.zero_le _) σ Fr.rf (fun f e hf he => by rw [if_neg (Nat.not_lt_zero f)])
  · exact v_M_countsNear_2 (fr.sh hs) ⟨fun _ => hq σ1 ⟨fr, fun f e hf he => by rw [g1 f e hf he, if_pos hf]⟩, fun c => absurd (by rw [(kT σ1 fr).F]; exact Int32.le_refl _) c⟩
  · refine v_M_countsNear_2 (fr.sh hs) ⟨fun c => by rw [(kT σ1 fr).F] at c; exact ge_not c hk (by omega), fun _ => ?_⟩
    refine up_ind (R := fun n => ∀ σ1, Fr S181 noL σ σ1 → (∀ f e, f < D 1 → e < D 1 → q_I σ1 181 (6 * f + e) = if f < k ∨ (f = k ∧ e < n) then q_I σ 181 (6 * f + e) + (if thk D w f e = 0 then 0 else 1) else q_I σ 181 (6 * f + e)) → q_At G X_M_countsNear (d + 1) 0 0 12 [some (.ref 159), some (.int (nI k)), some (.int (nI n))] [] σ1 Q) (n := D 1) (fun σ1 fr g1 => ?_) (fun n hn ih2 σ1 fr g1 => ?_) 0 (Nat.zero_le _) σ1 fr (fun f e hf he => by
      rw [g1 f e hf he]
      by_cases c : f < k
      · rw [if_pos c, if_pos (Or.inl c)]
      · rw [if_neg c, if_neg (by omega)])
    · refine v_M_countsNear_12 (fr.sh hs) ⟨fun _ => ?_, fun c => absurd (by rw [(kT σ1 fr).F]; exact Int32.le_refl _) c⟩
      rw [nI_1]
      refine ih σ1 fr (fun f e hf he => ?_)
      rw [g1 f e hf he]
      by_cases c : f < k + 1
      · rw [if_pos c, if_pos (show f < k ∨ (f = k ∧ e < D 1) by omega)]
      · rw [if_neg c, if_neg (show ¬ (f < k ∨ (f = k ∧ e < D 1)) by omega)]
    · have e1 : 6 * nI k + nI n = nI (6 * k + n) := by rw [q_lit 6, pk_mul, nI_add]
      have done : ∀ v, v = q_I σ1 181 (6 * k + n) + (if thk D w k n = 0 then 0 else 1) → q_At G X_M_countsNear (d + 1) 0 0 12 [some (.ref 159), some (.int (nI k)), some (.int (nI (n + 1)))] [] (q_setI σ1 181 (6 * k + n) v) Q := fun v hv => by
        refine ih2 _ (fr.tr (Fr.setI rfl)) (fun f e hf he => ?_)
        by_cases c : f = k ∧ e = n
        · obtain ⟨rfl, rfl⟩ := c
          rw [q_I_eq, hv, g1 f e hf he, if_neg (show ¬ (f < f ∨ (f = f ∧ e < e)) by omega), if_pos (show f < f ∨ (f = f ∧ e < e + 1) by omega)]
        · rw [q_I_ne (by omega), g1 f e hf he]
          by_cases c2 : f < k ∨ (f = k ∧ e < n)
          · rw [if_pos c2, if_pos (show f < k ∨ (f = k ∧ e < n + 1) by omega)]
          · rw [if_neg c2, if_neg (show ¬ (f < k ∨ (f = k ∧ e < n + 1)) by omega)]
      refine v_M_countsNear_12 (fr.sh hs) ⟨fun c => by rw [(kT σ1 fr).F] at c; exact ge_not c hn (by omega), fun _ => ⟨6 * k + n, e1, by omega, fun c => ⟨6 * k + n, e1, by omega, ?_⟩, fun c => ?_⟩⟩
      · rw [nI_eq (by omega) (by omega)] at c
        have z : thk D w k n = 0 := by rw [c]; exact thk_self hD (hB k hk).2
        rw [nI_1]
        exact done _ (by rw [if_pos z])
      · have h9 := thk_le (f := k) (e := n) hD (hB k hk).2 (hB n hn).2
        refine M_wallBy_ok (b := 1804) (fr.sh hs) hD (kT σ1 fr) (kB σ1 fr) (by decide) hk hn ⟨fr.sh hs, _, rfl, 6 * k + n, e1, by omega, ?_⟩
        rw [nI_1]
        simp only [le0_iff (show thk D w k n < 2 ^ 31 by omega)]
        exact done _ rfl
theorem M_fit_ok (hs : q_Sh σ) (hw : WJ D P N hm L un mk tl dy tp) (hJ : MJ σ D P N L un mk tl dy tp) (hq : ∀ σ', Fr qM noL σ σ' → q_I σ' 159 36 = nI (fitN D tl) → (∀ f e, f < D 1 → e < D 1 → q_I σ' 181 (6 * f + e) = nI (nrN D tl f e)) → Q none σ') : q_Call G (d + 9) 0 0 X_M_findFitting [.ref 159] σ Q := by
  have h6 := hw.1.F6
  have hl := wys_len hw.1
  refine q_cv0 (P := fun σ' => Fr qM noL σ σ' ∧ q_I σ' 159 36 = nI (fitN D tl) ∧ (∀ f e, f < D 1 → e < D 1 → q_I σ' 181 (6 * f + e) = nI (nrN D tl f e))) (by decide +kernel) (Nat.le_of_ble_eq_true rfl) (fun Q hq => ?_) (fun σ' h => hq σ' h.1 h.2.1 h.2.2)
  refine v_M_findFitting_0 hs (M_findWays_ok (d := d) hs hw.1 hJ.1.1 (fun σ1 f1 g1 => ⟨f1.sh hs, rfl, ?_⟩))
  have hs1 := f1.sh hs
  have hJ1 := hJ.qm hw (SMl_q f1)
  have loop := up_ind (R := fun k => ∀ σ2, Fr qW noL σ1 σ2 → q_I σ2 159 36 = nI (cnt (fun w => asT D w tl) (wys D) k) → (∀ f e, f < D 1 → e < D 1 → q_I σ2 181 (6 * f + e) = nI (cnt (fun w => asT D w tl && decide (thk D w f e ≠ 0)) (wys D) k)) → q_At G X_M_findFitting (d + 9) 0 0 32 [some (.ref 159), some (.int (nI k))] [] σ2 Q) (n := (wys D).length) (fun σ2 f2 u1 u2 => ?_) (fun k hk ih σ2 f2 u1 u2 => ?_)
  · refine up_ind (R := fun k => ∀ σ2, Fr qW noL σ1 σ2 → q_I σ2 159 36 = 0 → (∀ j, j < k → q_I σ2 181 j = 0) → q_At G X_M_findFitting (d + 9) 0 0 11 [some (.ref 159), some (.int (nI k))] [] σ2 Q) (n := 36) (fun σ2 f2 u1 u2 => ?_) (fun k hk ih σ2 f2 u1 u2 => ?_) 0 (Nat.zero_le _) (q_setI σ1 159 36 0) (Fr.setI (by unfold qW; omega)) q_I_eq (fun j hj => absurd hj (Nat.not_lt_zero j))
    · refine v_M_findFitting_11 (f2.sh hs1) ⟨fun _ => loop 0 (Nat.zero_le _) σ2 f2 u1 (fun f e hf he => u2 _ (by omega)), fun c => absurd (by decide) c⟩
    · refine v_M_findFitting_11 (f2.sh hs1) ⟨fun c => ge_not (b := 36) c hk (by decide), fun _ => ⟨k, rfl, hk, ?_⟩⟩
      rw [nI_1]
      refine ih _ (f2.tr (Fr.setI (by unfold qW; omega))) (by rw [q_I_ne (by omega)]; exact u1) (fun j hj => ?_)
      by_cases cj : j = k
      · subst cj; exact q_I_eq
      · rw [q_I_ne (by omega)]; exact u2 j (by omega)
  · exact v_M_findFitting_32 (f2.sh hs1) ⟨fun _ => hq σ2 ⟨(SMl_q f1).tr (qW_qM f2), u1, u2⟩, fun c => absurd (by rw [(g1.qw f2).1]; exact Int32.le_refl _) c⟩
  · obtain ⟨w, hwk⟩ := get_some hk
    rw [cnt_s hwk] at ih
    refine v_M_findFitting_32 (f2.sh hs1) ⟨fun c => by rw [(g1.qw f2).1] at c; exact ge_not c hk (by omega), fun _ => ?_⟩
    refine M_laysWay_ok (d := d + 7) (f2.sh hs1) hw.1 (hJ1.qm hw (qW_qM f2)).1.1 (g1.qw f2) hwk (fun σ3 f3 g3 => ⟨f3.sh (f2.sh hs1), rfl, ?_⟩)
    have f4 := f2.tr (SMo_q f3)
    have hJ4 := hJ1.qm hw (qW_qM f4)
    have k0 : ∀ a i, a ≠ 175 → q_I σ3 a i = q_I σ2 a i := fun a i h => f3.2.2.1 _ _ (fun z => by unfold SMo at z; omega)
    refine M_told_ok (d := d + 7) (f4.sh hs1) hw.1 hJ4.1.1 g3 hw.2.2.2.2.2.2.2.1 hJ4.2.2.2.2.2.1 ⟨f4.sh hs1, _, rfl, fun c => ?_, fun c => ?_⟩
    · rw [if10] at c
      have c2 : asT D w tl = false := by simpa using c
      rw [nI_1]
      refine ih σ3 f4 (by rw [k0 _ _ (by decide), u1, c2]; rfl) (fun f e hf he => ?_)
      rw [k0 _ _ (by decide), u2 f e hf he, cnt_s hwk]
      simp [c2]
    · rw [if10, Classical.not_not] at c
      have f5 : Fr qW noL σ3 (q_setI σ3 159 36 (q_I σ3 159 36 + 1)) := Fr.setI (by unfold qW; omega)
      have f6 := f4.tr f5
      have hJ6 := hJ1.qm hw (qW_qM f6)
      have g6 : HB (q_setI σ3 159 36 (q_I σ3 159 36 + 1)) 1804 D w := fun f hf => ⟨by rw [q_I_ne (by omega)]; exact (g3 f hf).1, (g3 f hf).2⟩
      refine M_counts_ok (d := d + 7) (f6.sh hs1) hw.1 hJ6.1.1 g6 (fun σ4 f7 g7 => ⟨f7.sh (f6.sh hs1), rfl, ?_⟩)
      have f8 : Fr qW noL σ1 σ4 := f6.tr (f7.mono (fun a i z => by unfold S181 at z; unfold qW; omega) (fun _ _ z => z))
      rw [nI_1]
      refine ih σ4 f8 ?_ (fun f e hf he => ?_)
      · rw [f7.2.2.1 _ _ (fun z => by unfold S181 at z; omega), q_I_eq, k0 _ _ (by decide), u1, nI_1, if_pos c]
      · rw [g7 f e hf he, q_I_ne (by omega), k0 _ _ (by decide), u2 f e hf he, cnt_s hwk]
        by_cases c3 : thk D w f e = 0
        · simp [c3]
        · rw [if_neg c3, if_pos (by simp [c, c3]), nI_1]
theorem M_how_ok (hs : q_Sh σ) (hw : WJ D P N hm L un mk tl dy tp) (hJ : MJ σ D P N L un mk tl dy tp) (hq : ∀ σ', Fr hi_ hi_ σ σ' → MJ σ' D P N L un mk tl dy tp → Q (some (.int (nI (fitN D tl)))) σ') : q_Call G (d + 10) 0 0 X_M_how [.ref 159] σ Q := by
  refine q_cii (Pp := fun v σ' => v = nI (fitN D tl) ∧ Fr hi_ hi_ σ σ' ∧ MJ σ' D P N L un mk tl dy tp) (by decide +kernel) (Nat.le_of_ble_eq_true rfl) (fun Q hq => ?_) (fun v σ' h => by rw [h.1]; exact hq σ' h.2.1 h.2.2)
  have hs1 : q_Sh (Th σ) := Th_fr.sh hs
  have hJ1 : MJ (Th σ) D P N L un mk tl dy tp := hJ.th hw
  exact v_M_how_0 hs (M_fit_ok (d := d) hs1 hw hJ1 (fun σ1 f1 g1 g2 => ⟨f1.sh hs1, rfl, hq _ _ ⟨g1, Th_fr.tr (qM_H f1), hJ1.qm hw f1⟩⟩))
theorem M_were_ok (hs : q_Sh σ) (hw : WJ D P N hm L un mk tl dy tp) (hJ : MJ σ D P N L un mk tl dy tp) (hq : ∀ σ', Fr hi_ hi_ σ σ' → MJ σ' D P N L un mk tl dy tp → Q (some (.int (a_were D tl x y))) σ') : q_Call G (d + 10) 0 0 X_M_were [.ref 159, .int x, .int y] σ Q := by
  have h6 := hw.1.F6
  refine q_cii (Pp := fun v σ' => v = a_were D tl x y ∧ Fr hi_ hi_ σ σ' ∧ MJ σ' D P N L un mk tl dy tp) (by decide +kernel) (Nat.le_of_ble_eq_true rfl) (fun Q hq => ?_) (fun v σ' h => by rw [h.1]; exact hq σ' h.2.1 h.2.2)
  have hs1 : q_Sh (Th σ) := Th_fr.sh hs
  have hJ1 : MJ (Th σ) D P N L un mk tl dy tp := hJ.th hw
  refine v_M_were_0 hs (M_areTwo_ok (d := d + 7) hs1 hJ1.1.1 ⟨hs1, _, rfl, fun k => ?_, fun k => hq _ _ ⟨by rw [a_were, if_pos k], Th_fr, hJ1⟩⟩)
  obtain ⟨f, e, a1, a2, a3, rfl, rfl⟩ := twoN_s (by omega) k
  have fl := fit_lt (tl := tl) hw.1
  have nl := nr_le D tl f e
  have e0 : a_were D tl (nI f) (nI e) = if nI (fitN D tl) = 0 then -1 else if nI (nrN D tl f e) = 0 then 0 else if nI (nrN D tl f e) = nI (fitN D tl) then 1 else 2 := by
    rw [a_were, if_neg k, nI_clamp (by omega), nI_clamp (by omega)]
    simp only [← nI_0, nI_eq (show fitN D tl < 2 ^ 31 by omega) (show 0 < 2 ^ 31 by decide), nI_eq (show nrN D tl f e < 2 ^ 31 by omega) (show 0 < 2 ^ 31 by decide), nI_eq (show nrN D tl f e < 2 ^ 31 by omega) (show fitN D tl < 2 ^ 31 by omega)]
  refine M_fit_ok (d := d) hs1 hw hJ1 (fun σ1 f1 g1 g2 => ⟨f1.sh hs1, rfl, 6 * f + e, by rw [q_lit 6, pk_mul, nI_add], by omega, hq _ _ ⟨?_, Th_fr.tr (qM_H f1), hJ1.qm hw f1⟩⟩)
  rw [g1, g2 f e a1 a2, e0]
theorem M_ask_ok (hs : q_Sh σ) (hw : WJ D P N hm L un mk tl dy tp) (hJ : MJ σ D P N L un mk tl dy tp) (hq : ∀ σ', Fr hi_ hi_ σ σ' → MJ σ' D P N L un mk tl dy tp → Q (some (.int (akF D tl (D 1)).1)) σ') : q_Call G (d + 10) 0 0 X_M_ask [.ref 159] σ Q := by
  have h6 := hw.1.F6
  refine q_cii (Pp := fun v σ' => v = (akF D tl (D 1)).1 ∧ Fr hi_ hi_ σ σ' ∧ MJ σ' D P N L un mk tl dy tp) (by decide +kernel) (Nat.le_of_ble_eq_true rfl) (fun Q hq => ?_) (fun v σ' h => by rw [h.1]; exact hq σ' h.2.1 h.2.2)
  have hs1 : q_Sh (Th σ) := Th_fr.sh hs
  have hJ1 : MJ (Th σ) D P N L un mk tl dy tp := hJ.th hw
  have fl := fit_lt (tl := tl) hw.1
  refine v_M_ask_0 hs (M_fit_ok (d := d) hs1 hw hJ1 (fun σ1 f1 g1 g2 => ⟨f1.sh hs1, rfl, ?_⟩))
  have hs2 := f1.sh hs1
  have hJ2 := hJ1.qm hw f1
  dsimp only
  rw [g1]
  refine up_ind (R := fun k => q_At G X_M_ask (d + 10) 0 0 18 [some (.ref 159), some (.int (akF D tl k).1), some (.int (nI (akF D tl k).2)), some (.int (nI k)), none, none, none] [] σ1 Q) (n := D 1) ?_ (fun k hk ih => ?_) 0 (Nat.zero_le _)
  · exact v_M_ask_18 hs2 ⟨fun _ => hq _ _ ⟨rfl, Th_fr.tr (qM_H f1), hJ2⟩, fun c => absurd (by rw [hJ2.1.1.F]; exact Int32.le_refl _) c⟩
  · refine v_M_ask_18 hs2 ⟨fun c => by rw [hJ2.1.1.F] at c; exact ge_not c hk (by omega), fun _ => ?_⟩
    rw [nI_1]
    have lp := up_ind (R := fun n => k + 1 ≤ n → q_At G X_M_ask (d + 10) 0 0 31 [some (.ref 159), some (.int (akE D tl k n (akF D tl k)).1), some (.int (nI (akE D tl k n (akF D tl k)).2)), some (.int (nI k)), some (.int (nI n)), none, none] [] σ1 Q) (n := D 1) (fun _ => ?_) (fun n hn ih2 hkn => ?_)
    · have := lp (k + 1) (by omega) (Nat.le_refl _)
      rw [akE_low _ (Nat.le_refl _)] at this
      exact this
    · refine v_M_ask_31 hs2 ⟨fun _ => ?_, fun c => absurd (by rw [hJ2.1.1.F]; exact Int32.le_refl _) c⟩
      rw [nI_1]; exact ih
    · have nl := nr_le D tl k n
      have gl := gr_le D tl k n
      have al : (akE D tl k n (akF D tl k)).2 ≤ fitN D tl := Nat.le_trans (akE_le _) (akF_le k)
      have e1 : 6 * nI k + nI n = nI (k * 6 + n) := by rw [q_lit 6, pk_mul, nI_add, Nat.mul_comm]
      have eg : (if nI (nrN D tl k n) ≤ nI (fitN D tl) - nI (nrN D tl k n) then nI (fitN D tl) - nI (nrN D tl k n) else nI (nrN D tl k n)) = nI (grN D tl k n) := by
        rw [pk_sub nl]
        unfold grN
        simp only [nI_leI (show nrN D tl k n < 2 ^ 31 by omega) (show fitN D tl - nrN D tl k n < 2 ^ 31 by omega)]
        by_cases q1 : nrN D tl k n < fitN D tl - nrN D tl k n
        · rw [if_pos q1, if_pos (by omega)]
        · rw [if_neg q1]
          by_cases q2 : nrN D tl k n ≤ fitN D tl - nrN D tl k n
          · rw [if_pos q2]; congr 1; omega
          · rw [if_neg q2]
      have ih2 := ih2 (by omega)
      rw [akE] at ih2
      refine v_M_ask_31 hs2 ⟨fun c => by rw [hJ2.1.1.F] at c; exact ge_not c hn (by omega), fun _ => ⟨6 * k + n, by rw [q_lit 6, pk_mul, nI_add], by omega, ?_⟩⟩
      rw [g1, g2 k n hk hn, eg, nI_1, e1]
      simp only [nI_leI (show (akE D tl k n (akF D tl k)).2 < 2 ^ 31 by omega) (show grN D tl k n < 2 ^ 31 by omega)]
      by_cases q1 : (akE D tl k n (akF D tl k)).2 ≤ grN D tl k n
      · rw [if_neg (by omega)] at ih2
        rw [if_pos q1, if_pos q1]
        exact ih2
      · rw [if_pos ⟨by omega, by omega⟩] at ih2
        rw [if_neg q1, if_neg q1]
        exact ih2
end MTALES
