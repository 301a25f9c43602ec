section MLINE2
variable {G : q_G} {d : Nat} {σ σ' σ1 : q_S} {Q : Option Value → q_S → Prop} {tp : List Nat} {i M c : Nat} {s : q_ts}
theorem add0 {σ : q_S} : q_setI σ 159 7 (q_I σ 159 7 + 0) = σ := by rw [show q_I σ 159 7 + 0 = q_I σ 159 7 from Int32.add_zero _, q_setI_self]
theorem ix268 {A B k : Nat} : (((268 + (36 * nI k)) + (6 * nI A)) + nI B) = nI (268 + 36 * k + (A * 6 + B)) := by
  rw [show (268 : Int32) = nI 268 from rfl, show (36 : Int32) = nI 36 from rfl, pk_mul, nI_add, ix208]
theorem M_like_l {k : Nat} (hk3 : k < 3) (hd : 5 ≤ d) (hw : WTp tp) (hM : IsM tp M) (him : i < M) (hP : MlP tp M σ s c i) (hW : WS s) (hq : ∀ σ', MlV tp M σ (lnT tp s (68 + 36 * k) (if k < 2 then 9 else 99) i) σ' → Q none σ') : q_Call G d 0 0 X_M_readLiking [.ref 159, .int (nI k)] σ Q := by
  obtain ⟨d, rfl⟩ : ∃ d', d = d' + 1 := ⟨d - 1, by omega⟩
  obtain ⟨hs, hK, hR, hc⟩ := hP
  have h6 := hW.1.F6
  refine q_cv0 (P := MlV tp M σ (lnT tp s (68 + 36 * k) (if k < 2 then 9 else 99) i)) (by decide +kernel) (Nat.le_of_ble_eq_true rfl) (fun Q hq => ?_) hq
  have f0 : Fr S78 noL σ (q_setI σ 159 7 (nI (i + 1))) := Fr.setI ⟨rfl, Or.inl rfl⟩
  have hs0 := f0.sh hs
  have eh : (if 2 ≤ nI k then (99 : Int32) else 9) = nI (if k < 2 then 9 else 99) := by
    exact (by decide : ∀ k, k < 3 → (if 2 ≤ nI k then (99 : Int32) else 9) = nI (if k < 2 then 9 else 99)) k hk3
  have hh : (if k < 2 then 9 else 99) < 2 ^ 31 := by split <;> decide
  refine v_M_readLiking_0 hs ?_
  rw [hK.nx, eh]
  generalize hhi : (if k < 2 then 9 else 99) = hi0 at *
  -- with a fault nothing changes
  have bad : ∀ (A B : Nat) (v : Int32) (σ2 : q_S), A < 6 → B < 6 → q_Sh σ2 → FX σ2 v → Q none σ2 → q_Call G d 0 0 X_M_takeNumber [.ref 159, .int 1, .int (nI hi0)] σ2 (q_ri (fun x37 σ35 => (((q_I σ35 159 8) ≤ 0 → (∃ k41, (((268 + (36 * nI k)) + (6 * nI A)) + nI B) = nI k41 ∧ k41 < 400 ∧ Q none (q_setI σ35 165 k41 x37))) ∧ (¬ (q_I σ35 159 8) ≤ 0 → (∃ k44, (((268 + (36 * nI k)) + (6 * nI A)) + nI B) = nI k44 ∧ k44 < 400 ∧ (∃ k46, (((268 + (36 * nI k)) + (6 * nI A)) + nI B) = nI k46 ∧ k46 < 400 ∧ Q none (q_setI σ35 165 k46 (q_I σ35 165 k44)))))))) := fun A B v σ2 hA hB hs2 x2 q => M_number_no (by omega) hs2 x2 ⟨hs2, _, rfl, fun z => absurd z x2.nle, fun _ => ⟨_, ix268, by omega, _, ix268, by omega, by rw [q_setI_self]; exact q⟩⟩
  refine M_two_ok (r := 1) (b := 20) (Or.inr rfl) (Or.inr rfl) (by omega) hw hM hs0 (hK.at him) (hR.s78 f0).2.2.1 hW.okN (fun ta tb σ2 f2 k2 => ?_) (fun e a σ2 ha f2 x2 => ?_)
  · have hs2 := f2.sh hs0
    have F2 := f0.tr f2
    have R2 := hR.s78 F2
    have a6 := ((tdX_lt (T := tk tp (i + 1)) hW.1 hW.2.2.1).2 ta).1
    have b6 := ((tdX_lt (T := tk tp (i + 1 + 1)) hW.1 hW.2.2.1).2 tb).1
    have eW : ∀ r, (if tdX s.2.2.2 20 (tk tp (i + 1)) = tdX s.2.2.2 20 (tk tp (i + 1 + 1)) then (3, i + 2, s) else if s.1 (68 + 36 * k + (tdX s.2.2.2 20 (tk tp (i + 1)) * 6 + tdX s.2.2.2 20 (tk tp (i + 1 + 1)))) = 0 then (if nmF (tk tp (i + 3)) 1 hi0 = 0 then (0, i + 4, (updN s.1 (68 + 36 * k + (tdX s.2.2.2 20 (tk tp (i + 1)) * 6 + tdX s.2.2.2 20 (tk tp (i + 1 + 1)))) (tk tp (i + 3)).2.2.1, s.2)) else (nmF (tk tp (i + 3)) 1 hi0, i + 3, s)) else (3, i + 2, s)) = r → lnT tp s (68 + 36 * k) hi0 i = r := fun r h => by
      unfold lnT twF
      rw [if_pos ta, if_pos tb]
      by_cases e : tdX s.2.2.2 20 (tk tp (i + 1)) = tdX s.2.2.2 20 (tk tp (i + 1 + 1))
      · rw [if_pos e] at h ⊢
        exact h
      · rw [if_neg e] at h ⊢
        exact h
    generalize tdX s.2.2.2 20 (tk tp (i + 1)) = A at *
    generalize tdX s.2.2.2 20 (tk tp (i + 1 + 1)) = B at *
    have h0 := k2.2.2.1
    have l0 : q_I σ2 159 8 ≤ 0 := by rw [h0]; exact Int32.le_refl _
    have eAB : (nI A = nI B) ↔ A = B := nI_eq (by omega) (by omega)
    have h9 : s.1 (68 + 36 * k + (A * 6 + B)) ≤ 99 := by
      obtain ⟨g1, g2, g3⟩ := hW.1.2.2.2.2.2.2.2.2.1 (A * 6 + B) (by omega)
      have : k = 0 ∨ k = 1 ∨ k = 2 := by omega
      rcases this with z | z | z <;> subst z
      · exact Nat.le_trans g1 (by decide)
      · exact Nat.le_trans g2 (by decide)
      · exact g3
    have ev : q_I σ2 165 (268 + 36 * k + (A * 6 + B)) = nI (s.1 (68 + 36 * k + (A * 6 + B))) := by
      rw [show 268 + 36 * k + (A * 6 + B) = 200 + (68 + 36 * k + (A * 6 + B)) by omega]
      exact R2.1 _ (by omega) (by omega)
    have tl : lnT tp s (68 + 36 * k) hi0 i = (3, i + 2, s) → q_Call G d 0 0 X_M_wrong [.ref 159, .int 3] σ2 (q_rv (fun σ30 => q_Call G d 0 0 X_M_takeNumber [.ref 159, .int 1, .int (nI hi0)] (q_setI σ30 159 7 ((q_I σ30 159 7) + (if (q_I σ30 159 8) ≤ 0 then (1 : Int32) else (0 : Int32)))) (q_ri (fun x37 σ35 => (((q_I σ35 159 8) ≤ 0 → (∃ k41, (((268 + (36 * nI k)) + (6 * nI A)) + nI B) = nI k41 ∧ k41 < 400 ∧ Q none (q_setI σ35 165 k41 x37))) ∧ (¬ (q_I σ35 159 8) ≤ 0 → (∃ k44, (((268 + (36 * nI k)) + (6 * nI A)) + nI B) = nI k44 ∧ k44 < 400 ∧ (∃ k46, (((268 + (36 * nI k)) + (6 * nI A)) + nI B) = nI k46 ∧ k46 < 400 ∧ Q none (q_setI σ35 165 k46 (q_I σ35 165 k44)))))))))) := fun er => M_wrong_ok (k := 3) hs2 k2 hw.1 (by decide) (by decide) (fun σ3 f3 x3 => ⟨f3.sh hs2, rfl, by
      dsimp only
      rw [if_neg x3.nle, add0]
      exact bad A B _ σ3 (by omega) (by omega) (f3.sh hs2) x3 (hq _ (MlV.bad er (by decide) (S78_l (F2.tr f3)) x3))⟩)
    refine ⟨fun z => absurd h0 z, fun _ => ⟨fun z => tl (eW _ (if_pos (eAB.mp z))), fun z => ⟨268 + 36 * k + (A * 6 + B), ix268, by omega, fun cz => ?_, fun cz => ?_⟩⟩⟩
    · rw [eAB] at z
      rw [ev, le0_iff (by omega)] at cz
      rw [if_pos l0, k2.nx]
      have i3 : i + 3 ≤ M := tk_up hM k2.2.2.2.1 (by rw [tdF_0 tb]; decide)
      have f3 : Fr S78 noL σ2 (q_setI σ2 159 7 (nI (i + 3))) := Fr.setI ⟨rfl, Or.inl rfl⟩
      have hs3 := f3.sh hs2
      refine M_number_ok (i := i + 3) (lo := 1) (hi := hi0) (by omega) (by decide) hh hw hM hs3 (k2.at i3) (fun en σ4 f4 k4 => ⟨f4.sh hs3, _, rfl, fun _ => ⟨268 + 36 * k + (A * 6 + B), ix268, by omega, hq _ ?_⟩, fun y => absurd (by rw [k4.2.2.1]; exact Int32.le_refl _) y⟩) (fun en σ4 f4 x4 => ⟨f4.sh hs3, _, rfl, fun y => absurd y x4.nle, fun _ => ⟨_, ix268, by omega, _, ix268, by omega, by
        rw [q_setI_self]
        exact hq _ (MlV.bad (eW _ (by rw [if_neg z, if_pos cz, if_neg en])) en (S78_l ((F2.tr f3).tr f4)) x4)⟩⟩)
      have R4 := hR.s78 ((F2.tr f3).tr f4)
      have U1 := R4.upd (j := 68 + 36 * k + (A * 6 + B)) (v := (tk tp (i + 3)).2.2.1) (by omega) (by omega)
      rw [show 268 + 36 * k + (A * 6 + B) = 200 + (68 + 36 * k + (A * 6 + B)) by omega, eW _ (by rw [if_neg z, if_pos cz, if_pos en])]
      exact ⟨(S78_l ((F2.tr f3).tr f4)).tr (Fr165 (by omega)), Or.inl ⟨rfl, k4.w165, c, U1, by show c ≤ i + 4; omega⟩⟩
    · rw [eAB] at z
      rw [ev, le0_iff (by omega)] at cz
      exact tl (eW _ (by rw [if_neg z, if_neg cz]))
  · refine ⟨fun _ => ?_, fun z => absurd z x2.n0⟩
    rw [if_neg x2.nle, add0]
    exact bad a 0 _ σ2 ha (by decide) (f2.sh hs0) x2 (hq _ (MlV.bad (by unfold lnT; rw [if_neg e]) e (S78_l (f0.tr f2)) x2))
theorem M_cust_l {x : Nat} (hx : x < 2) (hd : 5 ≤ d) (hw : WTp tp) (hM : IsM tp M) (him : i < M) (hP : MlP tp M σ s c i) (hW : WS s) (hq : ∀ σ', MlV tp M σ (lnC tp s x i) σ' → Q none σ') : q_Call G d 0 0 X_M_readCustom [.ref 159, .int (nI x)] σ Q := by
  obtain ⟨d, rfl⟩ : ∃ d', d = d' + 1 := ⟨d - 1, by omega⟩
  obtain ⟨hs, hK, hR, hc⟩ := hP
  have h6 := hW.1.F6
  have h4 : s.1 (3 + x) ≤ 4 := by
    have : x = 0 ∨ x = 1 := by omega
    rcases this with z | z <;> subst z
    · exact hW.1.2.2.1
    · exact hW.1.2.2.2.1
  refine q_cv0 (P := MlV tp M σ (lnC tp s x i)) (by decide +kernel) (Nat.le_of_ble_eq_true rfl) (fun Q hq => ?_) hq
  have e203 : (203 : Int32) + nI x = nI (200 + (3 + x)) := by
    rw [show (203 : Int32) = nI 203 from rfl, nI_add]
    congr 1
    omega
  have en : q_I σ 165 (200 + (3 + x)) = nI (s.1 (3 + x)) := hR.1 _ (by omega) (by omega)
  have e4 : (q_I σ 165 (200 + (3 + x)) = 4) ↔ s.1 (3 + x) = 4 := by rw [en]; exact nI_eq (b := 4) (by omega) (by decide)
  have e376 : ((376 : Int32) + (8 * nI x)) + (2 * q_I σ 165 (200 + (3 + x))) = nI (200 + (176 + 8 * x + 2 * s.1 (3 + x))) := by
    rw [en, show (376 : Int32) = nI 376 from rfl, show (8 : Int32) = nI 8 from rfl, show (2 : Int32) = nI 2 from rfl, pk_mul, pk_mul, nI_add, nI_add]
    congr 1
    omega
  have e377 : (((376 : Int32) + (8 * nI x)) + (2 * q_I σ 165 (200 + (3 + x)))) + 1 = nI (200 + (177 + 8 * x + 2 * s.1 (3 + x))) := by
    rw [e376, nI_1]
    congr 1
    omega
  refine v_M_readCustom_0 hs ⟨200 + (3 + x), e203, by omega, fun c4 => ?_, fun c4 => ?_⟩
  · rw [e4] at c4
    have f0 : Fr S78 noL σ (q_setI σ 159 7 (nI (i + 1))) := Fr.setI ⟨rfl, Or.inl rfl⟩
    have hs0 := f0.sh hs
    rw [hK.nx]
    have lC : ∀ r, (if (twF tp s.2.2.2 20 (i + 1)).1 = 0 then (0, i + 3, (cuD s.1 x (tdX s.2.2.2 20 (tk tp (i + 1))) (tdX s.2.2.2 20 (tk tp (i + 2))), s.2)) else ((twF tp s.2.2.2 20 (i + 1)).1, (twF tp s.2.2.2 20 (i + 1)).2, s)) = r → lnC tp s x i = r := fun r h => by unfold lnC; rw [if_neg (by omega)]; exact h
    -- the same is written with and without a fault
    have wr : ∀ (A B : Int32) (σ2 : q_S) (Kp : q_S → Prop), (∀ σ3, Fr SRl LRl σ2 σ3 → σ3 = q_setI (q_setI (q_setI σ2 165 (200 + (176 + 8 * x + 2 * s.1 (3 + x))) A) 165 (200 + (177 + 8 * x + 2 * s.1 (3 + x))) B) 165 (200 + (3 + x)) (q_I (q_setI (q_setI σ2 165 (200 + (176 + 8 * x + 2 * s.1 (3 + x))) A) 165 (200 + (177 + 8 * x + 2 * s.1 (3 + x))) B) 165 (200 + (3 + x)) + 1) → Kp σ3) → (∃ k42, ((376 + (8 * nI x)) + (2 * (q_I σ 165 (200 + (3 + x))))) = nI k42 ∧ k42 < 400 ∧ (∃ k44, (((376 + (8 * nI x)) + (2 * (q_I σ 165 (200 + (3 + x))))) + 1) = nI k44 ∧ k44 < 400 ∧ (∃ k46, (203 + nI x) = nI k46 ∧ k46 < 400 ∧ (∃ k48, (203 + nI x) = nI k48 ∧ k48 < 400 ∧ Kp (q_setI (q_setI (q_setI σ2 165 k42 A) 165 k44 B) 165 k48 ((q_I (q_setI (q_setI σ2 165 k42 A) 165 k44 B) 165 k46) + 1)))))) := fun A B σ2 Kp h => ⟨_, e376, by omega, _, e377, by omega, _, e203, by omega, _, e203, by omega, h _ (((Fr165 (by omega)).tr (Fr165 (by omega))).tr (Fr165 (by omega))) rfl⟩
    refine M_two_ok (r := 1) (b := 20) (Or.inr rfl) (Or.inr rfl) (by omega) hw hM hs0 (hK.at him) (hR.s78 f0).2.2.1 hW.okN (fun ta tb σ2 f2 k2 => ?_) (fun e a σ2 ha f2 x2 => ?_)
    · have hs2 := f2.sh hs0
      have F2 := f0.tr f2
      have a6 := ((tdX_lt (T := tk tp (i + 1)) hW.1 hW.2.2.1).2 ta).1
      have b6 := ((tdX_lt (T := tk tp (i + 1 + 1)) hW.1 hW.2.2.1).2 tb).1
      have h0 := k2.2.2.1
      have l0 : q_I σ2 159 8 ≤ 0 := by rw [h0]; exact Int32.le_refl _
      have eAB : (nI (tdX s.2.2.2 20 (tk tp (i + 1))) = nI (tdX s.2.2.2 20 (tk tp (i + 1 + 1)))) ↔ tdX s.2.2.2 20 (tk tp (i + 1)) = tdX s.2.2.2 20 (tk tp (i + 1 + 1)) := nI_eq (by omega) (by omega)
      refine ⟨fun z => absurd h0 z, fun _ => ⟨fun z => ?_, fun z => ?_⟩⟩
      · rw [eAB] at z
        rw [if_pos l0, k2.nx]
        have tw : (twF tp s.2.2.2 20 (i + 1)).1 = 0 := by unfold twF; rw [if_pos ta, if_pos tb, if_neg z]
        have i3 : i + 3 ≤ M := tk_up hM k2.2.2.2.1 (by rw [tdF_0 tb]; decide)
        have f3 : Fr S78 noL σ2 (q_setI σ2 159 7 (nI (i + 1 + 1 + 1))) := Fr.setI ⟨rfl, Or.inl rfl⟩
        have R3 := hR.s78 (F2.tr f3)
        refine wr _ _ _ _ (fun σ4 f4 e4' => hq _ ?_)
        rw [lC _ (if_pos tw)]
        have U1 := R3.upd (j := 176 + 8 * x + 2 * s.1 (3 + x)) (v := tdX s.2.2.2 20 (tk tp (i + 1))) (by omega) (by omega)
        have U2 := U1.upd (j := 177 + 8 * x + 2 * s.1 (3 + x)) (v := tdX s.2.2.2 20 (tk tp (i + 2))) (by omega) (by omega)
        have U3 := U2.upd (j := 3 + x) (v := s.1 (3 + x) + 1) (by omega) (by omega)
        have e3 : q_I (q_setI (q_setI (q_setI σ2 159 7 (nI (i + 1 + 1 + 1))) 165 (200 + (176 + 8 * x + 2 * s.1 (3 + x))) (nI (tdX s.2.2.2 20 (tk tp (i + 1))))) 165 (200 + (177 + 8 * x + 2 * s.1 (3 + x))) (nI (tdX s.2.2.2 20 (tk tp (i + 1 + 1))))) 165 (200 + (3 + x)) = nI (s.1 (3 + x)) := by
          rw [q_I_ne (by omega), q_I_ne (by omega)]
          exact R3.1 _ (by omega) (by omega)
        rw [e3, nI_1] at e4'
        subst e4'
        exact ⟨(S78_l (F2.tr f3)).tr f4, Or.inl ⟨rfl, (k2.at i3).w165.w165.w165, c, U3, by show c ≤ i + 3; omega⟩⟩
      · rw [eAB] at z
        have tw : twF tp s.2.2.2 20 (i + 1) = (3, i + 1 + 1) := by unfold twF; rw [if_pos ta, if_pos tb, if_pos z]
        refine M_wrong_ok (k := 3) hs2 k2 hw.1 (by decide) (by decide) (fun σ3 f3 x3 => ⟨f3.sh hs2, rfl, ?_⟩)
        dsimp only
        rw [if_neg x3.nle, add0]
        refine wr _ _ _ _ (fun σ4 f4 e4' => hq _ (MlV.bad (k := 3) (j := i + 1 + 1) (s := s) (lC _ (by rw [tw]; rfl)) (by decide) ((S78_l (F2.tr f3)).tr f4) ?_))
        subst e4'
        exact x3.w165.w165.w165
    · refine ⟨fun _ => ?_, fun z => absurd z x2.n0⟩
      rw [if_neg x2.nle, add0]
      refine wr _ _ _ _ (fun σ4 f4 e4' => hq _ (MlV.bad (lC _ (if_neg e)) e ((S78_l (f0.tr f2)).tr f4) ?_))
      subst e4'
      exact x2.w165.w165.w165
  · rw [e4] at c4
    exact M_wrong_ok (k := 5) hs hK hw.1 (by decide) (by decide) (fun σ1 f1 x1 => ⟨f1.sh hs, rfl, hq _ (MlV.bad (by unfold lnC; rw [if_pos (by omega)]) (by decide) (S78_l f1) x1)⟩)
end MLINE2
