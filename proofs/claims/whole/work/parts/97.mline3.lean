section MLINE3
variable {G : q_G} {d : Nat} {σ σ' σ1 : q_S} {Q : Option Value → q_S → Prop} {tp : List Nat} {i M c : Nat} {s : q_ts}
theorem ix244 (n k : Nat) : ((244 : Int32) + (4 * nI n)) + nI k = nI (200 + (44 + k + 4 * n)) := by
  rw [show (244 : Int32) = nI 244 from rfl, show (4 : Int32) = nI 4 from rfl, pk_mul, nI_add, nI_add]
  congr 1
  omega
theorem ix244' (n : Nat) : ((244 : Int32) + (4 * nI n)) = nI (200 + (44 + 4 * n)) := by
  rw [show (244 : Int32) = nI 244 from rfl, show (4 : Int32) = nI 4 from rfl, pk_mul, nI_add]
  congr 1
  omega
theorem M_family_l (hd : 5 ≤ d) (hw : WTp tp) (hM : IsM tp M) (him : i < M) (hP : MlP tp M σ s c i) (hW : WS s) (hq : ∀ σ', MlV tp M σ (lnF tp s i) σ' → Q none σ') : q_Call G d 0 0 X_M_readFamily [.ref 159] σ Q := by
  obtain ⟨d, rfl⟩ : ∃ d', d = d' + 1 := ⟨d - 1, by omega⟩
  obtain ⟨hs, hK, hR, hc⟩ := hP
  have h6 := hW.1.2.1
  have h1 := hW.1.1
  have hl := hW.2.2.2.1
  refine q_cv0 (P := MlV tp M σ (lnF tp s i)) (by decide +kernel) (Nat.le_of_ble_eq_true rfl) (fun Q hq => ?_) hq
  have e0 : q_I σ 165 200 = nI (s.1 0) := hR.1 0 (by decide) (by decide)
  have e1 : q_I σ 165 201 = nI (s.1 1) := hR.1 1 (by decide) (by decide)
  have e6 : (q_I σ 165 201 = q_I σ 165 200) ↔ s.1 1 = s.1 0 := by rw [e0, e1]; exact nI_eq (by omega) (by omega)
  refine v_M_readFamily_0 hs ⟨fun c6 => ?_, fun c6 => ?_⟩
  · rw [e6] at c6
    rw [e1, show (20 : Int32) = nI 20 from rfl, nI_add]
    have lF : ∀ r, (if (fmF tp s.2.2.2 i).1 = 0 then (0, i + 9, (fmD s.1 (s.1 1) ((tk tp (i + 2)).2.2.1 - 18) (tk tp (i + 4)).2.2.1 (tk tp (i + 6)).2.2.1 (tk tp (i + 8)).2.2.1, s.2.1, s.2.2.1, s.2.2.2 ++ [((tk tp (i + 1)).2.2.2, 20 + s.1 1)])) else ((fmF tp s.2.2.2 i).1, (fmF tp s.2.2.2 i).2, s)) = r → lnF tp s i = r := fun r h => by unfold lnF; rw [if_neg (by omega)]; exact h
    have hn6 : s.1 1 < 6 := by omega
    have hF1 : ∀ n, s.1 1 = n → q_I σ 165 201 = nI n := fun n z => by rw [← z]; exact e1
    -- with a fault
    have b4 : ∀ (x : Int32) (σ2 : q_S), (fmF tp s.2.2.2 i).1 ≠ 0 → Fr SRl LRl σ σ2 → FX σ2 (nI (flt tp (fmF tp s.2.2.2 i).1 (fmF tp s.2.2.2 i).2)) → Q none (q_setI (q_setI σ2 165 (200 + (44 + 3 + 4 * s.1 1)) x) 165 201 ((q_I (q_setI σ2 165 (200 + (44 + 3 + 4 * s.1 1)) x) 165 201) + 1)) := fun x σ2 hF f2 x2 => hq _ (MlV.bad (lF _ (if_neg hF)) hF ((f2.tr (Fr165 (by omega))).tr (Fr165 (by decide))) x2.w165.w165)
    have b3 : ∀ (σ2 : q_S), (fmF tp s.2.2.2 i).1 ≠ 0 → Fr SRl LRl σ σ2 → FX σ2 (nI (flt tp (fmF tp s.2.2.2 i).1 (fmF tp s.2.2.2 i).2)) → q_Call G d 0 0 X_M_takeAfter [.ref 159, .int 5, .int 0, .int 999] σ2 (q_ri (fun x31 σ29 => (∃ k33, ((244 + (4 * nI (s.1 1))) + 3) = nI k33 ∧ k33 < 400 ∧ Q none (q_setI (q_setI σ29 165 k33 x31) 165 201 ((q_I (q_setI σ29 165 k33 x31) 165 201) + 1))))) := fun σ2 hF f2 x2 => M_after_no (by omega) (f2.sh hs) x2 ⟨f2.sh hs, _, rfl, _, ix244 _ 3, by omega, b4 _ σ2 hF f2 x2⟩
    have b2 : ∀ (σ2 : q_S), (fmF tp s.2.2.2 i).1 ≠ 0 → Fr SRl LRl σ σ2 → FX σ2 (nI (flt tp (fmF tp s.2.2.2 i).1 (fmF tp s.2.2.2 i).2)) → q_Call G d 0 0 X_M_takeAfter [.ref 159, .int 4, .int 0, .int 9] σ2 (q_ri (fun x25 σ23 => (∃ k27, ((244 + (4 * nI (s.1 1))) + 2) = nI k27 ∧ k27 < 400 ∧ q_Call G d 0 0 X_M_takeAfter [.ref 159, .int 5, .int 0, .int 999] (q_setI σ23 165 k27 x25) (q_ri (fun x31 σ29 => (∃ k33, ((244 + (4 * nI (s.1 1))) + 3) = nI k33 ∧ k33 < 400 ∧ Q none (q_setI (q_setI σ29 165 k33 x31) 165 201 ((q_I (q_setI σ29 165 k33 x31) 165 201) + 1)))))))) := fun σ2 hF f2 x2 => M_after_no (by omega) (f2.sh hs) x2 ⟨f2.sh hs, _, rfl, _, ix244 _ 2, by omega, b3 _ hF (f2.tr (Fr165 (by omega))) x2.w165⟩
    have b1 : ∀ (σ2 : q_S), (fmF tp s.2.2.2 i).1 ≠ 0 → Fr SRl LRl σ σ2 → FX σ2 (nI (flt tp (fmF tp s.2.2.2 i).1 (fmF tp s.2.2.2 i).2)) → q_Call G d 0 0 X_M_takeAfter [.ref 159, .int 3, .int 0, .int 9] σ2 (q_ri (fun x19 σ17 => (∃ k21, ((244 + (4 * nI (s.1 1))) + 1) = nI k21 ∧ k21 < 400 ∧ q_Call G d 0 0 X_M_takeAfter [.ref 159, .int 4, .int 0, .int 9] (q_setI σ17 165 k21 x19) (q_ri (fun x25 σ23 => (∃ k27, ((244 + (4 * nI (s.1 1))) + 2) = nI k27 ∧ k27 < 400 ∧ q_Call G d 0 0 X_M_takeAfter [.ref 159, .int 5, .int 0, .int 999] (q_setI σ23 165 k27 x25) (q_ri (fun x31 σ29 => (∃ k33, ((244 + (4 * nI (s.1 1))) + 3) = nI k33 ∧ k33 < 400 ∧ Q none (q_setI (q_setI σ29 165 k33 x31) 165 201 ((q_I (q_setI σ29 165 k33 x31) 165 201) + 1))))))))))) := fun σ2 hF f2 x2 => M_after_no (by omega) (f2.sh hs) x2 ⟨f2.sh hs, _, rfl, _, ix244 _ 1, by omega, b2 _ hF (f2.tr (Fr165 (by omega))) x2.w165⟩
    have hi9 := hK.2.2.2
    refine M_name_ok (by omega) hw hM hs hK him hR hW.okN (by omega) (fun z0 σ1 f1 k1 R1 => ⟨f1.sh hs, rfl, ?_⟩) (fun z0 σ1 f1 x1 => ⟨f1.sh hs, rfl, ?_⟩)
    · have hs1 := f1.sh hs
      have F1 := SNm_l f1
      refine M_kind_ok (by omega) hw hM hs1 k1 (fun z1 σ2 f2 k2 => ⟨f2.sh hs1, _, rfl, _, ix244' _, by omega, ?_⟩) (fun z1 σ2 f2 x2 => ⟨f2.sh hs1, _, rfl, _, ix244' _, by omega, ?_⟩)
      · have hs2 := f2.sh hs1
        have F2 := F1.tr (S78_l f2)
        have R2 := (R1.s78 f2).upd (j := 44 + 4 * s.1 1) (v := (tk tp (i + 2)).2.2.1 - 18) (by omega) (by omega)
        have F2w := F2.tr (Fr165 (σ := σ2) (j := 200 + (44 + 4 * s.1 1)) (v := nI ((tk tp (i + 2)).2.2.1 - 18)) (by omega))
        refine M_after_ok (w := 3) (hi := 9) (i := i + 3) (by omega) (by decide) (by decide) hw hM (F2w.sh hs) k2.w165 (fun z2 σ3 f3 k3 => ⟨f3.sh (F2w.sh hs), _, rfl, _, ix244 _ 1, by omega, ?_⟩) (fun z2 σ3 f3 x3 => ⟨f3.sh (F2w.sh hs), _, rfl, _, ix244 _ 1, by omega, ?_⟩)
        · have hs3 := f3.sh (F2w.sh hs)
          have F3 := F2w.tr (S78_l f3)
          have R3 := (R2.s78 f3).upd (j := 44 + 1 + 4 * s.1 1) (v := (tk tp (i + 4)).2.2.1) (by omega) (by omega)
          have F3w := F3.tr (Fr165 (σ := σ3) (j := 200 + (44 + 1 + 4 * s.1 1)) (v := nI (tk tp (i + 4)).2.2.1) (by omega))
          refine M_after_ok (w := 4) (hi := 9) (i := i + 5) (by omega) (by decide) (by decide) hw hM (F3w.sh hs) k3.w165 (fun z3 σ4 f4 k4 => ⟨f4.sh (F3w.sh hs), _, rfl, _, ix244 _ 2, by omega, ?_⟩) (fun z3 σ4 f4 x4 => ⟨f4.sh (F3w.sh hs), _, rfl, _, ix244 _ 2, by omega, ?_⟩)
          · have hs4 := f4.sh (F3w.sh hs)
            have F4 := F3w.tr (S78_l f4)
            have R4 := (R3.s78 f4).upd (j := 44 + 2 + 4 * s.1 1) (v := (tk tp (i + 6)).2.2.1) (by omega) (by omega)
            have F4w := F4.tr (Fr165 (σ := σ4) (j := 200 + (44 + 2 + 4 * s.1 1)) (v := nI (tk tp (i + 6)).2.2.1) (by omega))
            refine M_after_ok (w := 5) (hi := 999) (i := i + 7) (by omega) (by decide) (by decide) hw hM (F4w.sh hs) k4.w165 (fun z4 σ5 f5 k5 => ⟨f5.sh (F4w.sh hs), _, rfl, _, ix244 _ 3, by omega, ?_⟩) (fun z4 σ5 f5 x5 => ⟨f5.sh (F4w.sh hs), _, rfl, _, ix244 _ 3, by omega, ?_⟩)
            · have F5 := F4w.tr (S78_l f5)
              have R5 := (R4.s78 f5).upd (j := 44 + 3 + 4 * s.1 1) (v := (tk tp (i + 8)).2.2.1) (by omega) (by omega)
              have R6 := R5.upd (j := 1) (v := s.1 1 + 1) (by decide) (by decide)
              have e201 : q_I (q_setI σ5 165 (200 + (44 + 3 + 4 * s.1 1)) (nI (tk tp (i + 8)).2.2.1)) 165 201 = nI (s.1 1) := by
                have := R5.1 1 (by decide) (by decide)
                rw [show (200 + 1 : Nat) = 201 from rfl] at this
                rw [this]
                show nI (updN _ _ _ 1) = _
                rw [updN_ne (by omega)]
                show nI (updN _ _ _ 1) = _
                rw [updN_ne (by omega)]
                show nI (updN _ _ _ 1) = _
                rw [updN_ne (by omega)]
                show nI (updN _ _ _ 1) = _
                rw [updN_ne (by omega)]
              have eF : (fmF tp s.2.2.2 i).1 = 0 := by unfold fmF; rw [if_pos z0, if_neg z1, if_pos z2, if_pos z3]; exact z4
              have e201 : q_I (q_setI σ5 165 (200 + (44 + 3 + 4 * s.1 1)) (nI (tk tp (i + 7 + 1)).2.2.1)) 165 201 = nI (s.1 1) := e201
              rw [e201, nI_1]
              refine hq _ ?_
              rw [lF _ (if_pos eF)]
              have eD : fmD s.1 (s.1 1) ((tk tp (i + 2)).2.2.1 - 18) (tk tp (i + 4)).2.2.1 (tk tp (i + 6)).2.2.1 (tk tp (i + 8)).2.2.1 = updN (updN (updN (updN (updN s.1 (44 + 4 * s.1 1) ((tk tp (i + 2)).2.2.1 - 18)) (44 + 1 + 4 * s.1 1) (tk tp (i + 4)).2.2.1) (44 + 2 + 4 * s.1 1) (tk tp (i + 6)).2.2.1) (44 + 3 + 4 * s.1 1) (tk tp (i + 8)).2.2.1) 1 (s.1 1 + 1) := rfl
              rw [eD]
              exact ⟨(F5.tr (Fr165 (by omega))).tr (Fr165 (by decide)), Or.inl ⟨rfl, k5.w165.w165, c, R6, by show c ≤ i + 9; omega⟩⟩
            · have eF : fmF tp s.2.2.2 i = trF tp 5 999 (i + 7) := by unfold fmF; rw [if_pos z0, if_neg z1, if_pos z2, if_pos z3]
              rw [← eF] at z4 x5
              exact b4 _ σ5 z4 (F4w.tr (S78_l f5)) x5
          · have eF : fmF tp s.2.2.2 i = trF tp 4 9 (i + 5) := by unfold fmF; rw [if_pos z0, if_neg z1, if_pos z2, if_neg z3]
            rw [← eF] at z3 x4
            exact b3 _ z3 ((F3w.tr (S78_l f4)).tr (Fr165 (by omega))) x4.w165
        · have eF : fmF tp s.2.2.2 i = trF tp 3 9 (i + 3) := by unfold fmF; rw [if_pos z0, if_neg z1, if_neg z2]
          rw [← eF] at z2 x3
          exact b2 _ z2 ((F2w.tr (S78_l f3)).tr (Fr165 (by omega))) x3.w165
      · have eF : fmF tp s.2.2.2 i = (1, i + 2) := by unfold fmF; rw [if_pos z0, if_pos z1]
        exact b1 _ (by rw [eF]; exact (by decide : (1 : Nat) ≠ 0)) ((F1.tr (S78_l f2)).tr (Fr165 (by omega))) (by rw [eF]; exact x2.w165)
    · have eF : fmF tp s.2.2.2 i = (nwF s.2.2.2 (tk tp (i + 1)), i + 1) := by unfold fmF; rw [if_neg z0]
      have hs1 := f1.sh hs
      have F1 := SNm_l f1
      exact M_takeOne_no (m := 4) (by omega) (by decide) hs1 x1 ⟨hs1, _, rfl, _, ix244' _, by omega, b1 _ (by rw [eF]; exact z0) (F1.tr (Fr165 (by omega))) (by rw [eF]; exact x1.w165)⟩
  · rw [e6] at c6
    exact M_wrong_ok (k := 5) hs hK hw.1 (by decide) (by decide) (fun σ1 f1 x1 => ⟨f1.sh hs, rfl, hq _ (MlV.bad (by unfold lnF; rw [if_pos (by omega)]) (by decide) (S78_l f1) x1)⟩)
theorem msk_eq : ∀ w, w < 3 → (if nI w = 0 then (7 : Int32) else (if nI w = 1 then (56 : Int32) else (200 : Int32))) = msk w := by decide
theorem M_law_no (hd : 2 ≤ d) (hw : WTp tp) (hP : MlP tp M σ s c i) (hT : ¬ ((tk tp i).1 = 1 ∧ 11 ≤ (tk tp i).2.2.1 ∧ (tk tp i).2.2.1 < 11 + 3)) (hq : ∀ σ', MlV tp M σ (1, i, s) σ' → Q none σ') : q_Call G d 0 0 X_M_readLaw [.ref 159] σ Q := by
  obtain ⟨d, rfl⟩ : ∃ d', d = d' + 1 := ⟨d - 1, by omega⟩
  obtain ⟨hs, hK, hR, hc⟩ := hP
  refine q_cv0 (P := MlV tp M σ (1, i, s)) (by decide +kernel) (Nat.le_of_ble_eq_true rfl) (fun Q hq => ?_) hq
  refine v_M_readLaw_0 hs (M_wordHere_ok (f := 11) (m := 3) (by omega) (by decide) hs hK ⟨hs, _, rfl, fun z => absurd ((wh_ge (by decide)).mp z) hT, fun _ => ?_⟩)
  exact M_wrong_ok (k := 1) hs hK hw.1 (by decide) (by decide) (fun σ1 f1 x1 => ⟨f1.sh hs, rfl, fun z => absurd z x1.nle, fun _ => hq _ (MlV.bad rfl (by decide) (S78_l f1) x1)⟩)
theorem SMx_l (hf : Fr (SMx c) noL σ σ') : Fr SRl LRl σ σ' := hf.mono (fun a j z => by unfold SMx at z; unfold SRl; omega) (fun _ _ z => z.elim)
theorem M_law_l {w : Nat} (hw3 : w < 3) (hd : 39 ≤ d) (hw : WTp tp) (hM : IsM tp M) (hMl : M ≤ tp.length) (him : i < M) (hP : MlP tp M σ s c i) (hT : (tk tp i).1 = 1 ∧ (tk tp i).2.2.1 = 11 + w) (hq : ∀ σ', MlV tp M σ (lnL tp s w i) σ' → Q none σ') : q_Call G d 0 0 X_M_readLaw [.ref 159] σ Q := by
  obtain ⟨d, rfl⟩ : ∃ d', d = d' + 1 := ⟨d - 1, by omega⟩
  obtain ⟨hs, hK, hR, hc⟩ := hP
  have hMb := hK.2.2.2.2
  have l0 : q_I σ 159 8 ≤ 0 := by rw [hK.2.2.1]; exact Int32.le_refl _
  refine q_cv0 (P := MlV tp M σ (lnL tp s w i)) (by decide +kernel) (Nat.le_of_ble_eq_true rfl) (fun Q hq => ?_) hq
  have ex4 : whT (tk tp i) 11 3 = nI w := by
    rw [whT_1 ⟨hT.1, by omega, by omega⟩, hT.2]
    congr 1
    omega
  have e205 : (205 : Int32) + nI w = nI (205 + w) := by rw [show (205 : Int32) = nI 205 from rfl, nI_add]
  refine v_M_readLaw_0 hs (M_wordHere_ok (f := 11) (m := 3) (by omega) (by decide) hs hK ⟨hs, _, rfl, ?_⟩)
  dsimp only
  rw [ex4, msk_eq w hw3]
  refine ⟨fun _ => ⟨205 + w, e205, by omega, fun c1 => ⟨fun _ => ⟨205 + w, e205, by omega, ?_⟩, fun z => absurd l0 z⟩, fun c1 => ?_⟩, fun z => absurd (nI_pos' (by omega)) z⟩
  · have nt : s.2.2.1 w = false := by
      rcases hR.2.1 w hw3 with ⟨a1, _⟩ | ⟨a1, a, a2, a3, _⟩
      · exact a1
      · rw [a2] at c1
        exact absurd c1 (nI_pos (by omega))
    have lL : ∀ r, (if (ex tp w (8 * tp.length + 8) 0 0 (i + 1)).1 = 0 then (0, (ex tp w (8 * tp.length + 8) 0 0 (i + 1)).2.1, (s.1, updP s.2.1 w (ex tp w (8 * tp.length + 8) 0 0 (i + 1)).2.2, updB s.2.2.1 w, s.2.2.2)) else ((ex tp w (8 * tp.length + 8) 0 0 (i + 1)).1, (ex tp w (8 * tp.length + 8) 0 0 (i + 1)).2.1, s)) = r → lnL tp s w i = r := fun r h => by
      unfold lnL
      rw [if_neg (by rw [nt]; decide)]
      exact h
    rw [hK.nx, show q_I (q_setI σ 159 7 (nI (i + 1))) 159 13 = nI c by rw [q_I_ne (by omega)]; exact hR.2.2.2]
    have f3 : Fr (fun a j => (a = 159 ∧ (j = 7 ∨ j = 20)) ∨ (a = 165 ∧ j = 205 + w)) noL σ (q_setI (q_setI (q_setI σ 159 7 (nI (i + 1))) 165 (205 + w) (nI c)) 159 20 (msk w)) := ((Fr.setI (Or.inl ⟨rfl, Or.inl rfl⟩)).tr (Fr.setI (Or.inr ⟨rfl, rfl⟩))).tr (Fr.setI (Or.inl ⟨rfl, Or.inr rfl⟩))
    have e5 : q_I (q_setI (q_setI (q_setI σ 159 7 (nI (i + 1))) 165 (205 + w) (nI c)) 159 20 (msk w)) 165 (205 + w) = nI c := by rw [q_I_ne (by omega), q_I_eq]
    have k3 : MK (q_setI (q_setI (q_setI σ 159 7 (nI (i + 1))) 165 (205 + w) (nI c)) 159 20 (msk w)) tp M (i + 1) := (hK.at him).w165.fr (SI := fun a j => a = 159 ∧ j = 20) (SL := noL) (Fr.setI ⟨rfl, rfl⟩) (fun a j z => by omega) (fun _ _ z => z.elim)
    have e13 : q_I (q_setI (q_setI (q_setI σ 159 7 (nI (i + 1))) 165 (205 + w) (nI c)) 159 20 (msk w)) 159 13 = nI c := by rw [q_I_ne (by omega), q_I_ne (by omega), q_I_ne (by omega)]; exact hR.2.2.2
    have e20 : q_I (q_setI (q_setI (q_setI σ 159 7 (nI (i + 1))) 165 (205 + w) (nI c)) 159 20 (msk w)) 159 20 = msk w := q_I_eq
    generalize q_setI (q_setI (q_setI σ 159 7 (nI (i + 1))) 165 (205 + w) (nI c)) 159 20 (msk w) = σ3 at f3 e5 k3 e13 e20 ⊢
    have F3 : Fr SRl LRl σ σ3 := f3.mono (fun a j z => by unfold SRl; omega) (fun _ _ z => z.elim)
    have hs3 := F3.sh hs
    have hx := (ex_ok (w := w) hM (8 * tp.length + 8) 0 (i + 1) him).1
    refine (Mx_all (G := G) (M := M) hM hw hw3 (8 * tp.length + 8)).1 0 (i + 1) c σ3 d _ (by omega) (by decide) (by omega) ⟨hs3, k3, e13, by omega, e20⟩ (fun σ4 hV => ⟨hV.1.sh hs3, rfl, ?_⟩)
    have hs4 := hV.1.sh hs3
    have hl := hx.1.1
    have hu := hx.1.2.1
    generalize ex tp w (8 * tp.length + 8) 0 0 (i + 1) = r at *
    rcases hV.2 with ⟨a1, a2, a3, a4⟩ | ⟨a1, a2, c', a3, a4, a5⟩
    · have hlen := hx.1.2.2 a1
      refine M_emit_ok hs4 a3 (by omega) ⟨(Fr.emit (Nat.le_refl _)).sh hs4, rfl, hq _ ?_⟩
      rw [lL _ (if_pos a1)]
      have fe : Fr (SMx (c + r.2.2.length)) noL σ4 (q_setI (q_setI (q_setI σ4 166 (1100 + (c + r.2.2.length)) 0) 167 (1100 + (c + r.2.2.length)) 0) 159 13 (nI (c + r.2.2.length + 1))) := Fr.emit (Nat.le_refl _)
      have ke := a2.emit (a := 0) (b := 0) (c := c + r.2.2.length)
      have e13' : q_I (q_setI (q_setI (q_setI σ4 166 (1100 + (c + r.2.2.length)) 0) 167 (1100 + (c + r.2.2.length)) 0) 159 13 (nI (c + r.2.2.length + 1))) 159 13 = nI (c + r.2.2.length + 1) := q_I_eq
      have e0 : q_I (q_setI (q_setI (q_setI σ4 166 (1100 + (c + r.2.2.length)) 0) 167 (1100 + (c + r.2.2.length)) 0) 159 13 (nI (c + r.2.2.length + 1))) 166 (1100 + (c + r.2.2.length)) = 0 := by rw [q_I_ne (by omega), q_I_ne (by omega), q_I_eq]
      generalize q_setI (q_setI (q_setI σ4 166 (1100 + (c + r.2.2.length)) 0) 167 (1100 + (c + r.2.2.length)) 0) 159 13 (nI (c + r.2.2.length + 1)) = σ5 at fe ke e13' e0 ⊢
      have f35 : Fr (SMx c) noL σ3 σ5 := hV.1.tr (SMx_mono (by omega) fe)
      refine ⟨F3.tr (SMx_l f35), Or.inl ⟨rfl, ke, c + r.2.2.length + 1, ⟨fun j j1 j2 => ?_, fun w' hw' => ?_, ?_, e13'⟩, by show c + r.2.2.length + 1 ≤ r.2.1; omega⟩⟩
      · rw [f35.2.2.1 _ _ (fun z => by unfold SMx at z; omega), f3.2.2.1 _ _ (fun z => by omega)]
        exact hR.1 j j1 j2
      · by_cases e : w' = w
        · subst e
          have eP : updP s.2.1 w' r.2.2 w' = r.2.2 := if_pos rfl
          show (updB s.2.2.1 w' w' = false ∧ _) ∨ (updB s.2.2.1 w' w' = true ∧ _)
          refine Or.inr ⟨if_pos rfl, c, ?_, ?_, ?_, ?_⟩
          · rw [f35.2.2.1 _ _ (fun z => by unfold SMx at z; omega)]; exact e5
          · show c + (updP s.2.1 w' r.2.2 w').length < _
            rw [eP]; omega
          · show ME σ5 w' c (updP s.2.1 w' r.2.2 w')
            rw [eP]
            exact a4.fr fe (fun b j z => by unfold SMx at z; omega)
          · show q_I σ5 166 (1100 + (c + (updP s.2.1 w' r.2.2 w').length)) = 0
            rw [eP]; exact e0
        · have eP : updP s.2.1 w r.2.2 w' = s.2.1 w' := if_neg e
          have eB : updB s.2.2.1 w w' = s.2.2.1 w' := if_neg e
          show (updB s.2.2.1 w w' = false ∧ q_I σ5 165 (205 + w') = -1 ∧ updP s.2.1 w r.2.2 w' = dflt w') ∨ (updB s.2.2.1 w w' = true ∧ ∃ a, q_I σ5 165 (205 + w') = nI a ∧ a + (updP s.2.1 w r.2.2 w').length < c + r.2.2.length + 1 ∧ ME σ5 w' a (updP s.2.1 w r.2.2 w') ∧ q_I σ5 166 (1100 + (a + (updP s.2.1 w r.2.2 w').length)) = 0)
          rw [eP, eB, f35.2.2.1 _ _ (fun z => by unfold SMx at z; omega), f3.2.2.1 _ _ (fun z => by omega)]
          rcases hR.2.1 w' hw' with ⟨b1, b2, b3⟩ | ⟨b1, a, b2, b3, b4, b5⟩
          · exact Or.inl ⟨b1, b2, b3⟩
          · refine Or.inr ⟨b1, a, b2, by omega, (b4.fr f3 (fun b j z => by omega)).fr f35 (fun b j z => by unfold SMx at z; omega), ?_⟩
            rw [f35.2.2.1 _ _ (fun z => by unfold SMx at z; omega), f3.2.2.1 _ _ (fun z => by omega)]
            exact b5
      · exact (hR.2.2.1.fr (Or.inr rfl) f3 (fun a j z => by omega) (fun _ _ z => z.elim)).fr (Or.inr rfl) f35 (fun a j z => by unfold SMx at z; omega) (fun _ _ z => z.elim)
    · refine M_emit_ok hs4 a5 (by omega) ⟨(Fr.emit (Nat.le_refl _)).sh hs4, rfl, hq _ (MlV.bad (lL _ (if_neg a1)) a1 ((F3.tr (SMx_l hV.1)).tr (SMx_l (Fr.emit (Nat.le_refl _)))) a2.emit)⟩
  · have yt : s.2.2.1 w = true := by
      rcases hR.2.1 w hw3 with ⟨a1, a2, _⟩ | ⟨a1, _⟩
      · rw [a2] at c1
        exact absurd (by decide) c1
      · exact a1
    exact M_wrong_ok (k := 3) hs hK hw.1 (by decide) (by decide) (fun σ1 f1 x1 => ⟨f1.sh hs, rfl, fun z => absurd z x1.nle, fun _ => hq _ (MlV.bad (by unfold lnL; rw [if_pos yt]) (by decide) (S78_l f1) x1)⟩)
theorem M_line_ok (hd : 40 ≤ d) (hw : WTp tp) (hM : IsM tp M) (hMl : M ≤ tp.length) (him : i < M) (hP : MlP tp M σ s c i) (hW : WS s) (hq : ∀ σ', MlV tp M σ (lnA tp s i) σ' → Q none σ') : q_Call G d 0 0 X_M_readLine [.ref 159] σ Q := by
  obtain ⟨d, rfl⟩ : ∃ d', d = d' + 1 := ⟨d - 1, by omega⟩
  have hs := hP.1
  have hK := hP.2.1
  refine q_cv0 (P := MlV tp M σ (lnA tp s i)) (by decide +kernel) (Nat.le_of_ble_eq_true rfl) (fun Q hq => ?_) hq
  refine v_M_readLine_0 hs (M_isWord_ok (c := 0) (by decide) hs hK ⟨hs, _, rfl, fun n0 => ?_, fun y0 => ?_⟩)
  · rw [i10] at n0
    refine M_isWord_ok (c := 1) (by decide) hs hK ⟨hs, _, rfl, fun n1 => ?_, fun y1 => ?_⟩
    · rw [i10] at n1
      refine M_isWord_ok (c := 2) (by decide) hs hK ⟨hs, _, rfl, fun n2 => ?_, fun y2 => ?_⟩
      · rw [i10] at n2
        refine M_wordHere_ok (f := 6) (m := 3) (by omega) (by decide) hs hK ⟨hs, _, rfl, fun n6 => ?_, fun y6 => ?_⟩
        · rw [wh_neg (by decide)] at n6
          refine M_wordHere_ok (f := 9) (m := 2) (by omega) (by decide) hs hK ⟨hs, _, rfl, fun n9 => ?_, fun y9 => ?_⟩
          · rw [wh_neg (by decide)] at n9
            by_cases c1 : (tk tp i).1 = 1 ∧ 11 ≤ (tk tp i).2.2.1 ∧ (tk tp i).2.2.1 < 11 + 3
            · have ew : (tk tp i).2.2.1 = 11 + ((tk tp i).2.2.1 - 11) := by omega
              refine M_law_l (w := (tk tp i).2.2.1 - 11) (by omega) (by omega) hw hM hMl him hP ⟨c1.1, ew⟩ (fun σ' hV => ⟨hV.1.sh hs, rfl, hq σ' ?_⟩)
              have lv := lnA_v c1.1 ew
              have eA : lnA tp s i = lnL tp s ((tk tp i).2.2.1 - 11) i := by
                have h3 : (tk tp i).2.2.1 - 11 = 0 ∨ (tk tp i).2.2.1 - 11 = 1 ∨ (tk tp i).2.2.1 - 11 = 2 := by omega
                generalize (tk tp i).2.2.1 - 11 = w at *
                unfold lnA
                simp only [lv]
                rcases h3 with z | z | z <;> subst z <;> rfl
              rw [eA]
              exact hV
            · refine M_law_no (by omega) hw hP c1 (fun σ' hV => ⟨hV.1.sh hs, rfl, hq σ' ?_⟩)
              have nw : ∀ w, (w = 0 ∨ w = 1 ∨ w = 2 ∨ (6 ≤ w ∧ w ≤ 13)) → ¬ isW (tk tp i) w = true := fun w hw2 z => by
                have z := isW_t.mp z
                rcases hw2 with e | e | e | e
                · subst e; exact n0 (isW_t.mpr z)
                · subst e; exact n1 (isW_t.mpr z)
                · subst e; exact n2 (isW_t.mpr z)
                · have := z.1
                  have := z.2
                  omega
              have eA : lnA tp s i = (1, i, s) := by
                unfold lnA
                rw [if_neg (nw 0 (by omega)), if_neg (nw 1 (by omega)), if_neg (nw 2 (by omega)), if_neg (nw 6 (by omega)), if_neg (nw 7 (by omega)), if_neg (nw 8 (by omega)), if_neg (nw 9 (by omega)), if_neg (nw 10 (by omega)), if_neg (nw 11 (by omega)), if_neg (nw 12 (by omega)), if_neg (nw 13 (by omega))]
              rw [eA]
              exact hV
          · have y9 : (tk tp i).1 = 1 ∧ 9 ≤ (tk tp i).2.2.1 ∧ (tk tp i).2.2.1 < 9 + 2 := Classical.byContradiction (fun z => y9 ((wh_neg (by decide)).mpr z))
            refine M_wordHere_ok (f := 9) (m := 2) (by omega) (by decide) hs hK ⟨hs, _, rfl, ?_⟩
            dsimp only
            rw [whT_1 y9]
            refine M_cust_l (x := (tk tp i).2.2.1 - 9) (by omega) (by omega) hw hM him hP hW (fun σ' hV => ⟨hV.1.sh hs, rfl, hq σ' ?_⟩)
            have lv := lnA_v (n := 9 + ((tk tp i).2.2.1 - 9)) y9.1 (by omega)
            have eA : lnA tp s i = lnC tp s ((tk tp i).2.2.1 - 9) i := by
              have h3 : (tk tp i).2.2.1 - 9 = 0 ∨ (tk tp i).2.2.1 - 9 = 1 := by omega
              generalize (tk tp i).2.2.1 - 9 = w at *
              unfold lnA
              simp only [lv]
              rcases h3 with z | z <;> subst z <;> rfl
            rw [eA]
            exact hV
        · have y6 : (tk tp i).1 = 1 ∧ 6 ≤ (tk tp i).2.2.1 ∧ (tk tp i).2.2.1 < 6 + 3 := Classical.byContradiction (fun z => y6 ((wh_neg (by decide)).mpr z))
          refine M_wordHere_ok (f := 6) (m := 3) (by omega) (by decide) hs hK ⟨hs, _, rfl, ?_⟩
          dsimp only
          rw [whT_1 y6]
          refine M_like_l (k := (tk tp i).2.2.1 - 6) (by omega) (by omega) hw hM him hP hW (fun σ' hV => ⟨hV.1.sh hs, rfl, hq σ' ?_⟩)
          have lv := lnA_v (n := 6 + ((tk tp i).2.2.1 - 6)) y6.1 (by omega)
          have eA : lnA tp s i = lnT tp s (68 + 36 * ((tk tp i).2.2.1 - 6)) (if (tk tp i).2.2.1 - 6 < 2 then 9 else 99) i := by
            have h3 : (tk tp i).2.2.1 - 6 = 0 ∨ (tk tp i).2.2.1 - 6 = 1 ∨ (tk tp i).2.2.1 - 6 = 2 := by omega
            generalize (tk tp i).2.2.1 - 6 = w at *
            unfold lnA
            simp only [lv]
            rcases h3 with z | z | z <;> subst z <;> rfl
          rw [eA]
          exact hV
      · rw [i10, Decidable.not_not] at y2
        exact M_family_l (by omega) hw hM him hP hW (fun σ' hV => ⟨hV.1.sh hs, rfl, hq σ' (by unfold lnA; rw [if_neg n0, if_neg n1, if_pos y2]; exact hV)⟩)
    · rw [i10, Decidable.not_not] at y1
      exact M_wall_l (by omega) hw hM him hP hW (fun σ' hV => ⟨hV.1.sh hs, rfl, hq σ' (by unfold lnA; rw [if_neg n0, if_pos y1]; exact hV)⟩)
  · rw [i10, Decidable.not_not] at y0
    exact M_house_l (by omega) hw hM him hP hW (fun σ' hV => ⟨hV.1.sh hs, rfl, hq σ' (by unfold lnA; rw [if_pos y0]; exact hV)⟩)
end MLINE3
