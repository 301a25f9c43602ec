-- days carried out
def doL (D : Nat → Nat) (s : q_lf) (x : Nat × Nat × Nat × Nat) : Bool × q_lf :=
  if x.1 = 0 then (true, (rdR D x.2.2.2, rdL D s.1 s.2 x.2.2.2))
  else if x.1 = 1 then (true, (swpN s.1 x.2.1 x.2.2.1, swpL s.2 x.2.1 x.2.2.1))
  else if x.1 = 2 then (if s.2 (6 + x.2.1) < nI x.2.2.2 then (false, s) else if thk D s.1 x.2.1 x.2.2.1 = 0 then (false, s) else (true, (s.1, lenL s.2 x.2.1 x.2.2.1 (nI x.2.2.2))))
  else (if s.2 (6 + x.2.1) < nI x.2.2.2 then (false, s) else if s.2 (12 + (x.2.1 * 6 + x.2.2.1)) < nI x.2.2.2 then (false, s) else (true, (s.1, payL s.2 x.2.1 x.2.2.1 (nI x.2.2.2))))
def jdS (D : Nat → Nat) (dy : q_dy) : Nat → q_lf × Int32 × Int32
  | 0 => ((fun f => f, stL D), -1, -1)
  | k + 1 => match dy[k]? with
    | some x => ((doL D (jdS D dy k).1 x).2, (if (doL D (jdS D dy k).1 x).1 then (jdS D dy k).2.1 else if (jdS D dy k).2.1 = -1 then nI k else (jdS D dy k).2.1), (if (jdS D dy k).2.2 = -1 then (if brk D (doL D (jdS D dy k).1 x).2.1 = 0 then -1 else nI k) else (jdS D dy k).2.2))
    | none => jdS D dy k
def a_judged (D : Nat → Nat) (dy : q_dy) (x : Int32) : Int32 := if inN 0 x 2 = 0 then -2 else if x = 0 then (jdS D dy dy.length).2.1 else if x = 1 then (jdS D dy dy.length).2.2 else (jdS D dy dy.length).1.2 49
def okX (D : Nat → Nat) (x : Nat × Nat × Nat × Nat) : Prop := x.1 ≤ 3 ∧ x.2.2.2 ≤ 9999 ∧ (x.1 ≠ 0 → x.2.1 < D 1 ∧ x.2.2.1 < D 1 ∧ x.2.1 ≠ x.2.2.1)
theorem WL_do {D : Nat → Nat} {s : q_lf} {x : Nat × Nat × Nat × Nat} (hD : WfD D) (h : WL D s.1 s.2) (hx : okX D x) : WL D (doL D s x).2.1 (doL D s x).2.2 := by
  unfold doL
  by_cases c0 : x.1 = 0
  · rw [if_pos c0]; exact WL_rd hD h
  · obtain ⟨a1, a2, a3⟩ := hx.2.2 c0
    rw [if_neg c0]
    by_cases c1 : x.1 = 1
    · rw [if_pos c1]; exact WL_swp hD h a1 a2
    · rw [if_neg c1]
      by_cases c2 : x.1 = 2
      · rw [if_pos c2]
        split
        · exact h
        · split
          · exact h
          · exact WL_len hD h a1 a2
      · rw [if_neg c2]
        split
        · exact h
        · split
          · exact h
          · exact WL_pay hD h a1 a2
theorem doL_0 {D : Nat → Nat} {s : q_lf} {x : Nat × Nat × Nat × Nat} (h : x.1 = 0) : doL D s x = (true, (rdR D x.2.2.2, rdL D s.1 s.2 x.2.2.2)) := by unfold doL; rw [if_pos h]
theorem doL_1 {D : Nat → Nat} {s : q_lf} {x : Nat × Nat × Nat × Nat} (h : x.1 = 1) : doL D s x = (true, (swpN s.1 x.2.1 x.2.2.1, swpL s.2 x.2.1 x.2.2.1)) := by unfold doL; rw [if_neg (show ¬ x.1 = 0 by omega), if_pos h]
theorem doL_2 {D : Nat → Nat} {s : q_lf} {x : Nat × Nat × Nat × Nat} (h : x.1 = 2) : doL D s x = (if s.2 (6 + x.2.1) < nI x.2.2.2 then (false, s) else if thk D s.1 x.2.1 x.2.2.1 = 0 then (false, s) else (true, (s.1, lenL s.2 x.2.1 x.2.2.1 (nI x.2.2.2)))) := by unfold doL; rw [if_neg (show ¬ x.1 = 0 by omega), if_neg (show ¬ x.1 = 1 by omega), if_pos h]
theorem doL_3 {D : Nat → Nat} {s : q_lf} {x : Nat × Nat × Nat × Nat} (h : x.1 = 3) : doL D s x = (if s.2 (6 + x.2.1) < nI x.2.2.2 then (false, s) else if s.2 (12 + (x.2.1 * 6 + x.2.2.1)) < nI x.2.2.2 then (false, s) else (true, (s.1, payL s.2 x.2.1 x.2.2.1 (nI x.2.2.2)))) := by unfold doL; rw [if_neg (show ¬ x.1 = 0 by omega), if_neg (show ¬ x.1 = 1 by omega), if_neg (show ¬ x.1 = 2 by omega)]
theorem jdS_s {D : Nat → Nat} {dy : q_dy} {k : Nat} {x : Nat × Nat × Nat × Nat} (h : dy[k]? = some x) : jdS D dy (k + 1) = ((doL D (jdS D dy k).1 x).2, (if (doL D (jdS D dy k).1 x).1 then (jdS D dy k).2.1 else if (jdS D dy k).2.1 = -1 then nI k else (jdS D dy k).2.1), (if (jdS D dy k).2.2 = -1 then (if brk D (doL D (jdS D dy k).1 x).2.1 = 0 then -1 else nI k) else (jdS D dy k).2.2)) := by rw [jdS, h]
theorem jdS_W {D : Nat → Nat} {dy : q_dy} (hD : WfD D) (hy : WY D dy) : ∀ k, WL D (jdS D dy k).1.1 (jdS D dy k).1.2
  | 0 => WL_st hD
  | k + 1 => by
    cases h : dy[k]? with
    | none => rw [jdS, h]; exact jdS_W hD hy k
    | some x => rw [jdS_s h]; exact WL_do hD (jdS_W hD hy k) (hy.2 x (List.mem_of_getElem? h))
theorem jdS_1 {D : Nat → Nat} {dy : q_dy} : ∀ k, k < 2 ^ 31 → ((jdS D dy k).2.1 = -1 ∨ 0 ≤ (jdS D dy k).2.1) ∧ ((jdS D dy k).2.2 = -1 ∨ 0 ≤ (jdS D dy k).2.2)
  | 0, _ => ⟨Or.inl rfl, Or.inl rfl⟩
  | k + 1, hk => by
    obtain ⟨i1, i2⟩ := jdS_1 (D := D) (dy := dy) k (by omega)
    cases h : dy[k]? with
    | none => rw [jdS, h]; exact ⟨i1, i2⟩
    | some x =>
      rw [jdS_s h]
      refine ⟨?_, ?_⟩
      · show (if (doL D (jdS D dy k).1 x).1 then (jdS D dy k).2.1 else if (jdS D dy k).2.1 = -1 then nI k else (jdS D dy k).2.1) = -1 ∨ 0 ≤ (if (doL D (jdS D dy k).1 x).1 then (jdS D dy k).2.1 else if (jdS D dy k).2.1 = -1 then nI k else (jdS D dy k).2.1)
        split
        · exact i1
        · split
          · exact Or.inr (nI_pos' (by omega))
          · exact i1
      · show (if (jdS D dy k).2.2 = -1 then (if brk D (doL D (jdS D dy k).1 x).2.1 = 0 then -1 else nI k) else (jdS D dy k).2.2) = -1 ∨ 0 ≤ (if (jdS D dy k).2.2 = -1 then (if brk D (doL D (jdS D dy k).1 x).2.1 = 0 then -1 else nI k) else (jdS D dy k).2.2)
        split
        · split
          · exact Or.inl rfl
          · exact Or.inr (nI_pos' (by omega))
        · exact i2
theorem isLi_19' : q_isLi 19 := isLi_19
section JUDGED
variable {G : q_G} {d : Nat} {σ σ' : q_S} {Q : Option Value → q_S → Prop} {t p k : Nat} {D : Nat → Nat} {P : Nat → List Int32} {N : q_nm} {hm w : Nat → Nat} {L L' : Nat → Int32} {un un' : List q_lf} {mk mk' : Nat → Option (q_lf × q_tl)} {tl tl' : q_tl} {dy : q_dy} {tp : List Nat} {x y z c u v : Int32} {f e : Nat} {s : q_lf} {X : Nat × Nat × Nat × Nat}
theorem Dy_carry_ok (ht : q_isTw t) (hp : q_isDy p) (hs : q_Sh σ) (hD : WfD D) (hT : CT0 σ t D P) (hy : WY D dy) (hY : CY σ p dy) (hk : dy[k]? = some X) (hL : CL σ 19 s.2) (hw : WL D s.1 s.2) (hq : ∀ σ', Fr (SRd 19) L12 σ σ' → CL σ' 19 (doL D s X).2.2 → Q (some (.int (if (doL D s X).1 then 1 else 0))) σ') : q_Call G (d + 5) 0 0 X_Dy_carryOut [.ref p, .int (nI k), .ref 19, .ref t, .ref 12] σ Q := by
  have h6 := hD.F6
  have hkl : k < dy.length := (List.getElem?_eq_some_iff.mp hk).1
  have hl := hy.1
  obtain ⟨x1, x2, x3⟩ := hy.2 X (List.mem_of_getElem? hk)
  obtain ⟨y1, y2, y3, y4⟩ := hY.2 k X hk
  refine q_cii (Pp := fun v σ' => v = (if (doL D s X).1 then 1 else 0) ∧ Fr (SRd 19) L12 σ σ' ∧ CL σ' 19 (doL D s X).2.2) (by decide +kernel) (Nat.le_of_ble_eq_true rfl) (fun Q hv => ?_) (fun v σ' h => by rw [h.1]; exact hq σ' h.2.1 h.2.2)
  have mS : ∀ {σ1 σ2 : q_S}, Fr (SLi 19) noL σ1 σ2 → Fr (SRd 19) L12 σ1 σ2 := fun h => h.mono (fun _ _ z => Or.inl z) (fun _ _ z => z.elim)
  refine v_Dy_carryOut_0 hp isLi_19' ht hs ⟨fun c => absurd c (nI_pos (by omega)), fun _ => ⟨fun c => by rw [hY.1] at c; exact ge_not c hkl (by omega), fun _ => ⟨fun _ => ⟨k, rfl, by omega, k, rfl, by omega, k, rfl, by omega, k, rfl, by omega, ?_⟩, fun c => absurd (nI_lt (b := 24) (by omega) (by decide)) c⟩⟩⟩
  rw [y1, y2, y3, y4]
  have eT : (nI X.1).toInt = (X.1 : Int) := nI_toInt (by omega)
  rw [eT]
  refine ⟨fun c => ?_, fun c => ?_, fun c => ?_, fun c => ?_⟩
  · have e3 : X.1 = 3 := by omega
    obtain ⟨a1, a2, a3⟩ := x3 (by omega)
    rw [doL_3 e3] at hv
    refine Li_canPay_ok isLi_19' hs hL (by omega) (by omega) ⟨hs, _, rfl, fun c2 => ?_, fun c2 => ?_⟩
    · have n1 : ¬ s.2 (6 + X.2.1) < nI X.2.2.2 := fun h => by rw [if_pos h] at c2; exact c2 rfl
      rw [if_neg n1, if01] at c2
      rw [if_neg n1, if_neg c2] at hv
      exact Li_pay_ok isLi_19' hs hL (by omega) (by omega) (fun σ1 f1 g1 => ⟨f1.sh hs, rfl, hv _ _ ⟨rfl, mS f1, g1⟩⟩)
    · by_cases n1 : s.2 (6 + X.2.1) < nI X.2.2.2
      · rw [if_pos n1] at hv
        exact hv _ _ ⟨rfl, Fr.rf, hL⟩
      · rw [if_neg n1, if01] at c2
        rw [if_neg n1, if_pos c2] at hv
        exact hv _ _ ⟨rfl, Fr.rf, hL⟩
  · rw [doL_0 (show X.1 = 0 by omega)] at hv
    refine Li_redraw_ok (d := d) (n := X.2.2.2) (hm := s.1) ht isLi_19' (σ := q_setL σ 12 1 (nI X.2.2.2).toInt64) hs hD (hT.keep (fun _ _ _ => rfl) (fun i => q_L_ne (by have := isTw_cases ht; omega))) hL hw.1 (by rw [q_L_eq, nI_l (by omega)]) (by omega) (fun σ1 f1 g1 g2 => ⟨f1.sh hs, _, rfl, hv _ _ ⟨rfl, (Fr.setL ⟨rfl, rfl⟩).tr f1, g1⟩⟩)
  · obtain ⟨a1, a2, a3⟩ := x3 (by omega)
    rw [doL_1 (show X.1 = 1 by omega)] at hv
    exact Li_swap_ok isLi_19' hs hL (by omega) (by omega) (fun σ1 f1 g1 => ⟨f1.sh hs, rfl, hv _ _ ⟨rfl, mS f1, g1⟩⟩)
  · obtain ⟨a1, a2, a3⟩ := x3 (by omega)
    rw [doL_2 (show X.1 = 2 by omega)] at hv
    refine Li_canLend_ok (d := d + 1) ht isLi_19' hs hD hT hL hw.1 a1 a2 ⟨hs, _, rfl, fun c2 => ?_, fun c2 => ?_⟩
    · have n1 : ¬ s.2 (6 + X.2.1) < nI X.2.2.2 := fun h => by rw [if_pos h] at c2; exact c2 rfl
      rw [if_neg n1, if01] at c2
      rw [if_neg n1, if_neg c2] at hv
      exact Li_lend_ok isLi_19' hs hL (by omega) (by omega) (fun σ1 f1 g1 => ⟨f1.sh hs, rfl, hv _ _ ⟨rfl, mS f1, g1⟩⟩)
    · by_cases n1 : s.2 (6 + X.2.1) < nI X.2.2.2
      · rw [if_pos n1] at hv
        exact hv _ _ ⟨rfl, Fr.rf, hL⟩
      · rw [if_neg n1, if01] at c2
        rw [if_neg n1, if_pos c2] at hv
        exact hv _ _ ⟨rfl, Fr.rf, hL⟩
def tr_ : Nat → Nat → Prop := fun a _ => a = 12 ∨ a = 13 ∨ (19 ≤ a ∧ a ≤ 22)
theorem CJ.tr (hw : WJ D P N hm L un mk tl dy tp) (hJ : CJ σ t p D P N L un mk tl dy tp) (hf : Fr tr_ tr_ σ σ') : CJ σ' t p D P N L un mk tl dy tp := by
  have ht := isTw_cases hJ.1.1.2.1
  have hp := isDy_cases hJ.1.2.1.2.1
  exact ⟨hJ.1.fr hw.2.2.2.2.2.1.1 hf (fun a i z => by unfold tr_ at z; unfold cj TC; omega) (fun a i z => by unfold tr_ at z; unfold cjL; omega), hJ.2.fr hf (fun a i z => by unfold tr_ at z; omega) (fun a i z => by unfold tr_ at z; omega)⟩
theorem SRd_tr (hf : Fr (SRd 19) L12 σ σ') : Fr tr_ tr_ σ σ' := hf.mono (fun a i z => by unfold SRd at z; unfold tr_; omega) (fun a i z => by unfold L12 at z; unfold tr_; omega)
theorem tr_lo (hf : Fr tr_ tr_ σ σ') : Fr lo_ lo_ σ σ' := hf.lo (fun a i z => by unfold tr_ at z; omega) (fun a i z => by unfold tr_ at z; omega)
theorem W_judged_ok (hs : q_Sh σ) (hw : WJ D P N hm L un mk tl dy tp) (hJ : CJ σ t p D P N L un mk tl dy tp) (hq : ∀ σ', Fr lo_ lo_ σ σ' → CJ σ' t p D P N L un mk tl dy tp → Q (some (.int (a_judged D dy x))) σ') : q_Call G (d + 6) 0 0 X_W_judged [.ref 0, .int x] σ Q := by
  have hy := hw.2.2.2.2.2.2.2.2.1
  have hl := hy.1
  refine q_cii (Pp := fun v σ' => v = a_judged D dy x ∧ Fr lo_ lo_ σ σ' ∧ CJ σ' t p D P N L un mk tl dy tp) (by decide +kernel) (Nat.le_of_ble_eq_true rfl) (fun Q hv => ?_) (fun v σ' h => by rw [h.1]; exact hq σ' h.2.1 h.2.2)
  have no : inN 0 x 2 = 0 → Q (some (.int (-2))) σ := fun k => hv _ _ ⟨by rw [a_judged, if_pos k], Fr.rf, hJ⟩
  refine v_W_judged_0 hs ⟨fun k => no (by rw [inN, if_pos k]), fun k => ⟨fun k2 => ⟨t, hJ.1.1.1, hJ.1.1.2.1, ?_⟩, fun k2 => no (by rw [inN, if_neg k, if_pos (Int32.not_le.mp k2)])⟩⟩
  have kn : ¬ inN 0 x 2 = 0 := by rw [inN, if_neg k, if_neg (Int32.not_lt.mpr k2)]; decide
  refine Li_begin_ok (d := d + 4) hJ.1.1.2.1 isLi_19' hs hw.1 hJ.1.2.2.1.1 (fun σ1 f1 g1 => ⟨f1.sh hs, rfl, ?_⟩)
  have f1' : Fr tr_ tr_ σ σ1 := f1.mono (fun a i z => by unfold SLi at z; unfold tr_; omega) (fun _ _ z => z.elim)
  refine up_ind (R := fun k => ∀ σ1, Fr tr_ tr_ σ σ1 → CL σ1 19 (jdS D dy k).1.2 → q_At G X_W_judged (d + 6) 0 0 30 [some (.ref 0), some (.int x), some (.int (jdS D dy k).2.1), some (.int (jdS D dy k).2.2), some (.int (nI k))] [] σ1 Q) (n := dy.length) (fun σ1 fr g1 => ?_) (fun k hk ih σ1 fr g1 => ?_) 0 (Nat.zero_le _) σ1 f1' g1
  · have hJ1 := hJ.tr hw fr
    refine v_W_judged_30 (fr.sh hs) ⟨p, hJ1.1.2.1.1, hJ1.1.2.1.2.1, fun _ => ?_, fun c => absurd (by rw [hJ1.1.2.2.2.2.2.2.2.2.1.1]; exact Int32.le_refl _) c⟩
    rw [show q_I σ1 19 4 = _ from g1.lp]
    exact hv _ _ ⟨by rw [a_judged, if_neg kn], tr_lo fr, hJ1⟩
  · have hJ1 := hJ.tr hw fr
    have hs1 := fr.sh hs
    obtain ⟨X, hX⟩ : ∃ X, dy[k]? = some X := ⟨dy[k], List.getElem?_eq_getElem hk⟩
    have okx := hy.2 X (List.mem_of_getElem? hX)
    rw [jdS_s hX] at ih
    refine v_W_judged_30 hs1 ⟨p, hJ1.1.2.1.1, hJ1.1.2.1.2.1, fun c => by rw [hJ1.1.2.2.2.2.2.2.2.2.1.1] at c; exact ge_not c hk (by omega), fun _ => ⟨t, hJ1.1.1.1, hJ1.1.1.2.1, ?_⟩⟩
    refine Dy_carry_ok (d := d) hJ1.1.1.2.1 hJ1.1.2.1.2.1 hs1 hw.1 hJ1.1.2.2.1.1 hy hJ1.1.2.2.2.2.2.2.2.2.1 hX g1 (jdS_W hw.1 hy k) (fun σ2 f2 g2 => ⟨f2.sh hs1, _, rfl, ?_⟩)
    have f3 := fr.tr (SRd_tr f2)
    have hJ2 := hJ.tr hw f3
    have hs2 := f3.sh hs
    have W2 := WL_do hw.1 (jdS_W hw.1 hy k) okx
    have ih2 := ih σ2 f3 g2
    -- the customs, where none was broken before
    have bk : (jdS D dy k).2.2 = -1 → ∀ l2 : Int32, l2 = (if (doL D (jdS D dy k).1 X).1 then (jdS D dy k).2.1 else if (jdS D dy k).2.1 = -1 then nI k else (jdS D dy k).2.1) → ∃ t20, q_R σ2 0 12 = some t20 ∧ q_isTw t20 ∧ q_Call G (d + 5) 0 0 X_Tw_pairsOf [.ref t20, .ref 20] σ2 (q_rl (fun x24 σ22 => q_Call G (d + 5) 0 0 X_Tw_brokenBy [.ref t20, .long x24] σ22 (q_ri (fun x28 σ26 => ((x28 = 0 → q_At G X_W_judged (d + 6) 0 0 30 [some (.ref 0), some (.int x), some (.int l2), some (.int (jdS D dy k).2.2), some (.int (nI (k + 1)))] [] σ26 Q) ∧ (¬ x28 = 0 → q_At G X_W_judged (d + 6) 0 0 30 [some (.ref 0), some (.int x), some (.int l2), some (.int (nI k)), some (.int (nI (k + 1)))] [] σ26 Q)))))) := fun b l2 hl2 => by
      refine ⟨t, hJ2.1.1.1, hJ2.1.1.2.1, Tw_pairs_ok (d := d + 2) hJ2.1.1.2.1 (by decide +kernel) hs2 hw.1 hJ2.1.2.2.1.1 (g2.HM (v := 19) hw.1 W2.1) ⟨hs2, _, rfl, Tw_broken_ok hJ2.1.1.2.1 hs2 hw.1 hJ2.1.2.2.1.1 ⟨hs2, _, rfl, ?_⟩⟩⟩
      rw [brkm_prs hw.1 (fun f hf => (W2.1 f hf).2)]
      subst hl2
      rw [if_pos b] at ih2
      refine ⟨fun q => ?_, fun q => ?_⟩
      · rw [if_pos q] at ih2
        rw [b]
        exact ih2
      · rw [if_neg q] at ih2
        exact ih2
    have nb : ¬ (jdS D dy k).2.2 = -1 → ∀ l2 : Int32, l2 = (if (doL D (jdS D dy k).1 X).1 then (jdS D dy k).2.1 else if (jdS D dy k).2.1 = -1 then nI k else (jdS D dy k).2.1) → q_At G X_W_judged (d + 6) 0 0 30 [some (.ref 0), some (.int x), some (.int l2), some (.int (jdS D dy k).2.2), some (.int (nI (k + 1)))] [] σ2 Q := fun b l2 hl2 => by
      subst hl2
      rw [if_neg b] at ih2
      exact ih2
    dsimp only
    rw [nI_1]
    refine ⟨fun c => ?_, fun c => ⟨fun c2 => ?_, fun c2 => ?_⟩⟩
    · rw [if10, Classical.not_not] at c
      exact ⟨fun b => nb b _ (by rw [if_pos c]), fun b => bk b _ (by rw [if_pos c])⟩
    · rw [if10] at c
      exact ⟨fun b => nb b _ (by rw [if_neg c, if_neg c2]), fun b => bk b _ (by rw [if_neg c, if_neg c2])⟩
    · rw [if10] at c
      exact ⟨fun b => nb b _ (by rw [if_neg c, if_pos c2]), fun b => bk b _ (by rw [if_neg c, if_pos c2])⟩
theorem M_does_ok (hs : q_Sh σ) (hD : WfD D) (hT : MT0 σ D P) (hy : WY D dy) (hY : MY σ dy) (hk : dy[k]? = some X) (hL : ML σ 1722 s.2) (hw : WL D s.1 s.2) (hq : ∀ σ', Fr (SMd 1722) L159 σ σ' → ML σ' 1722 (doL D s X).2.2 → Q (some (.int (if (doL D s X).1 then 1 else 0))) σ') : q_Call G (d + 3) 0 0 X_M_does [.ref 159, .int (nI (1 + 4 * k))] σ Q := by
  have h6 := hD.F6
  have hkl : k < dy.length := (List.getElem?_eq_some_iff.mp hk).1
  have hl := hy.1
  obtain ⟨x1, x2, x3⟩ := hy.2 X (List.mem_of_getElem? hk)
  obtain ⟨y1, y2, y3, y4⟩ := hY.2 k X hk
  refine q_cii (Pp := fun v σ' => v = (if (doL D s X).1 then 1 else 0) ∧ Fr (SMd 1722) L159 σ σ' ∧ ML σ' 1722 (doL D s X).2.2) (by decide +kernel) (Nat.le_of_ble_eq_true rfl) (fun Q hv => ?_) (fun v σ' h => by rw [h.1]; exact hq σ' h.2.1 h.2.2)
  have mS : ∀ {σ1 σ2 : q_S}, Fr (SMb 1722) noL σ1 σ2 → Fr (SMd 1722) L159 σ1 σ2 := fun h => h.mono (fun _ _ z => Or.inl z) (fun _ _ z => z.elim)
  refine v_M_does_0 hs ⟨1 + 4 * k, rfl, by omega, 2 + 4 * k, by rw [nI_1]; congr 1; omega, by omega, 3 + 4 * k, by rw [q_lit 2, nI_add]; congr 1; omega, by omega, 4 + 4 * k, by rw [q_lit 3, nI_add]; congr 1; omega, by omega, ?_⟩
  rw [y1]
  have hX4 : X.1 = 0 ∨ X.1 = 1 ∨ X.1 = 2 ∨ X.1 = 3 := by omega
  rcases hX4 with e | e | e | e
  · rw [e]
    rw [doL_0 e] at hv
    refine ⟨fun _ => ⟨fun c => absurd nI_0 c, fun _ => ?_⟩, fun c => absurd (by decide) c⟩
    rw [y2 e]
    exact M_draws_ok (b := 1722) (d := d) (n := X.2.2.2) (hm := s.1) (σ := q_setL σ 159 28 (nI X.2.2.2).toInt64) hs hD (hT.fr (SI := noL) (SL := L159) (Fr.setL ⟨rfl, rfl⟩) (fun _ _ z => z.elim)) hL hw.1 (by decide) (by rw [q_L_eq, nI_l (by omega)]) (by omega) (fun σ1 f1 g1 g2 => ⟨f1.sh hs, _, rfl, hv _ _ ⟨rfl, (Fr.setL ⟨rfl, rfl⟩).tr f1, g1⟩⟩)
  · obtain ⟨a1, a2, a3⟩ := x3 (by omega)
    rw [e]
    rw [doL_1 e] at hv
    refine ⟨fun _ => ⟨fun _ => ⟨fun c => absurd (by decide) c, fun _ => ?_⟩, fun c => absurd c (by decide)⟩, fun c => absurd (by decide) c⟩
    rw [(y3 (by omega)).1, (y3 (by omega)).2]
    exact M_swap_ok (b := 1722) hs hL (by decide) (by omega) (by omega) (fun σ1 f1 g1 => ⟨f1.sh hs, rfl, hv _ _ ⟨rfl, mS f1, g1⟩⟩)
  · obtain ⟨a1, a2, a3⟩ := x3 (by omega)
    rw [e, (y3 (by omega)).1, (y3 (by omega)).2, y4 (by omega)]
    rw [doL_2 e] at hv
    refine ⟨fun c => absurd c (by decide), fun _ => ⟨fun c => absurd (by decide) c, fun _ => ?_⟩⟩
    refine M_mayLend_ok (b := 1722) (d := d + 1) hs hD hT hL hw.1 (by decide) a1 a2 ⟨hs, _, rfl, fun _ => ⟨fun _ => ⟨fun c => ?_, fun c => ⟨fun c2 => absurd (by decide) c2, fun _ => ?_⟩⟩, fun c => absurd c (by decide)⟩, fun c => absurd c (by decide)⟩
    · have c' := c
      rw [if01] at c
      have ev : (if s.2 (6 + X.2.1) < nI X.2.2.2 then (false, s) else if thk D s.1 X.2.1 X.2.2.1 = 0 then (false, s) else (true, (s.1, lenL s.2 X.2.1 X.2.2.1 (nI X.2.2.2)))) = (false, s) := by
        by_cases n1 : s.2 (6 + X.2.1) < nI X.2.2.2
        · rw [if_pos n1]
        · rw [if_neg n1, if01] at c
          rw [if_neg n1, if_pos c]
      rw [ev] at hv
      refine ⟨fun _ => ?_, fun c2 => absurd c' c2⟩
      rw [c']
      exact ⟨rfl, hv _ _ ⟨rfl, Fr.rf, hL⟩⟩
    · have c' := c
      rw [if01] at c
      have n1 : ¬ s.2 (6 + X.2.1) < nI X.2.2.2 := fun h => by rw [if_pos h] at c; exact c rfl
      rw [if_neg n1, if01] at c
      rw [if_neg n1, if_neg c] at hv
      have e1 : (if (if s.2 (6 + X.2.1) < nI X.2.2.2 then (0 : Int32) else if thk D s.1 X.2.1 X.2.2.1 = 0 then 0 else 1) = 0 then (0 : Int32) else 1) = 1 := by rw [if_neg n1, if_neg c]; rfl
      rw [e1]
      exact M_lends_ok (b := 1722) (d := d + 1) hs hL (by decide) (by omega) (by omega) (fun σ1 f1 g1 => ⟨f1.sh hs, rfl, rfl, hv _ _ ⟨rfl, mS f1, g1⟩⟩)
  · obtain ⟨a1, a2, a3⟩ := x3 (by omega)
    rw [e, (y3 (by omega)).1, (y3 (by omega)).2, y4 (by omega)]
    rw [doL_3 e] at hv
    refine ⟨fun c => absurd c (by decide), fun _ => ⟨fun _ => ?_, fun c => absurd c (by decide)⟩⟩
    refine M_mayPay_ok (b := 1722) hs hL (by decide) (by omega) (by omega) ⟨hs, _, rfl, fun _ => ⟨fun _ => ⟨fun c => ?_, fun c => ⟨fun _ => ?_, fun c2 => absurd c2 (by decide)⟩⟩, fun c => absurd c (by decide)⟩, fun c => absurd c (by decide)⟩
    · have c' := c
      rw [if01] at c
      have ev : (if s.2 (6 + X.2.1) < nI X.2.2.2 then (false, s) else if s.2 (12 + (X.2.1 * 6 + X.2.2.1)) < nI X.2.2.2 then (false, s) else (true, (s.1, payL s.2 X.2.1 X.2.2.1 (nI X.2.2.2)))) = (false, s) := by
        by_cases n1 : s.2 (6 + X.2.1) < nI X.2.2.2
        · rw [if_pos n1]
        · rw [if_neg n1, if01] at c
          rw [if_neg n1, if_pos c]
      rw [ev] at hv
      refine ⟨fun _ => ?_, fun c2 => absurd c' c2⟩
      rw [c']
      exact ⟨rfl, hv _ _ ⟨rfl, Fr.rf, hL⟩⟩
    · have c' := c
      rw [if01] at c
      have n1 : ¬ s.2 (6 + X.2.1) < nI X.2.2.2 := fun h => by rw [if_pos h] at c; exact c rfl
      rw [if_neg n1, if01] at c
      rw [if_neg n1, if_neg c] at hv
      have e1 : (if (if s.2 (6 + X.2.1) < nI X.2.2.2 then (0 : Int32) else if s.2 (12 + (X.2.1 * 6 + X.2.2.1)) < nI X.2.2.2 then 0 else 1) = 0 then (0 : Int32) else 1) = 1 := by rw [if_neg n1, if_neg c]; rfl
      rw [e1]
      refine ⟨fun c2 => absurd c2 (by decide), fun _ => ?_⟩
      exact M_pays_ok (b := 1722) (d := d + 1) hs hL (by decide) (by omega) (by omega) (fun σ1 f1 g1 => ⟨f1.sh hs, rfl, rfl, hv _ _ ⟨rfl, mS f1, g1⟩⟩)
def mtS : Nat → Nat → Prop := fun a i => (a = 175 ∧ 1722 ≤ i) ∨ a = 178 ∨ a = 173 ∨ a = 174
theorem SMd_mtr (hf : Fr (SMd 1722) L159 σ σ') : Fr mtS L159 σ σ' := hf.mono (fun a i z => by unfold SMd at z; unfold mtS; omega) (fun _ _ z => z)
theorem MJ.mts (hw : WJ D P N hm L un mk tl dy tp) (hJ : MJ σ D P N L un mk tl dy tp) (hf : Fr mtS L159 σ σ') : MJ σ' D P N L un mk tl dy tp := hJ.fr hw hf (fun a i z => by unfold mtS at z; unfold mj; omega) (fun a i z => by unfold L159 at z; unfold mjL; omega)
end JUDGED
