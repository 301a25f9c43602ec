theorem sm_t1 : ∀ v, v < 34 → ((q_smap.getD v 0).toInt < 13 ∨ 23 < (q_smap.getD v 0).toInt → ¬ (v = 0 ∨ v = 1 ∨ v = 2 ∨ (6 ≤ v ∧ v ≤ 13))) ∧ ((q_smap.getD v 0).toInt = 13 → v = 0) ∧ ((q_smap.getD v 0).toInt = 14 → v = 1) ∧ ((q_smap.getD v 0).toInt = 15 → v = 2) ∧ ((q_smap.getD v 0).toInt = 16 → v = 6) ∧ ((q_smap.getD v 0).toInt = 17 → v = 7) := by decide +kernel
theorem sm_t2 : ∀ v, v < 34 → ((q_smap.getD v 0).toInt = 18 → v = 8) ∧ ((q_smap.getD v 0).toInt = 19 → v = 9) ∧ ((q_smap.getD v 0).toInt = 20 → v = 10) ∧ ((q_smap.getD v 0).toInt = 21 → v = 11) ∧ ((q_smap.getD v 0).toInt = 22 → v = 12) ∧ ((q_smap.getD v 0).toInt = 23 → v = 13) := by decide +kernel
theorem getD_apL {S c : List Int32} {j : Nat} (h : j < S.length) : (S ++ c).getD j 0 = S.getD j 0 := by
  rw [List.getD_eq_getElem?_getD, List.getD_eq_getElem?_getD, List.getElem?_append_left h]
theorem getD_apR {S c : List Int32} {j : Nat} : (S ++ c).getD (S.length + j) 0 = c.getD j 0 := by
  rw [List.getD_eq_getElem?_getD, List.getD_eq_getElem?_getD, List.getElem?_append_right (Nat.le_add_right _ _), Nat.add_sub_cancel_left]
section CLINES4
variable {G : q_G} {d : Nat} {σ σ' σ1 : q_S} {Q : Option Value → q_S → Prop} {tp : List Nat} {i t M : Nat} {s : q_ts} {S : List Int32}
theorem La_tell_ok {a0 w : Nat} {p z : Int32} (hd : 1 ≤ d) (ha : q_isLa a0) (hw3 : w < 3) (hs : q_Sh σ) (h5 : q_I σ a0 5 = z) (hq : Q none (q_setI (q_setI (q_setI (q_setI σ (a0 + 2) w p) (a0 + 3) w z) (a0 + 4) w 0) (a0 + 4) w 1)) : q_Call G d 0 0 X_La_tellFrom [.ref a0, .int (nI w), .int p] σ Q := by
  obtain ⟨d, rfl⟩ : ∃ d', d = d' + 1 := ⟨d - 1, by omega⟩
  refine q_cv0 (P := fun σ' => σ' = q_setI (q_setI (q_setI (q_setI σ (a0 + 2) w p) (a0 + 3) w z) (a0 + 4) w 0) (a0 + 4) w 1) (by decide +kernel) (Nat.le_of_ble_eq_true rfl) (fun Q hq => ?_) (fun σ' h => by rw [h]; exact hq)
  refine v_La_tellFrom_0 ha hs ?_
  refine q_cv0 (P := fun σ' => σ' = q_setI (q_setI (q_setI σ (a0 + 2) w p) (a0 + 3) w z) (a0 + 4) w 0) (by decide +kernel) (Nat.le_of_ble_eq_true rfl) (fun Q hq => ?_) (fun σ' h => ⟨?_, rfl, w, rfl, hw3, hq _ (by rw [h]; rfl)⟩)
  · refine v_La_placeLaw_0 ha hs ⟨w, rfl, hw3, w, rfl, hw3, w, rfl, hw3, hq _ ?_⟩
    rw [h5]
    rfl
  · rw [h]
    exact hs
theorem Rd_law_ok {w : Nat} (hw3 : w < 3) (hM : IsM tp M) (hMl : M ≤ tp.length) (hw : WTp tp) (hd : 39 ≤ d) (ht : q_isTw t) (hP : RdP tp t M σ s S i) (him : i < M) (hW : WS s) (hq : ∀ v σ', RdV tp t σ (lnL tp s w i) v σ' → Q (some (.int v)) σ') : q_Call G d 0 0 X_Rd_readLaw [.ref 4, .ref t, .int (nI w)] σ Q := by
  obtain ⟨d, rfl⟩ : ∃ d', d = d' + 1 := ⟨d - 1, by omega⟩
  obtain ⟨hs, hK, hT, h15, hz, hi⟩ := hP
  have h0 := isTw_cases ht
  have hl := hw.1
  have ha : q_isLa (t + 13) := by
    rcases h0 with z | z <;> subst z
    · exact (by decide : 40 ∈ q_lLa)
    · exact (by decide : 59 ∈ q_lLa)
  refine q_cii (Pp := RdV tp t σ (lnL tp s w i)) (by decide +kernel) (Nat.le_of_ble_eq_true rfl) (fun Q hv => ?_) hq
  have e17 := (hT.2.2.2.2 w hw3).1
  have e0 : (q_I σ (t + 13 + 4) w = 0) ↔ ¬ s.2.2.1 w = true := by
    rw [show t + 13 + 4 = t + 17 from rfl, e17, if10]
  refine v_Rd_readLaw_0 ht hs ⟨w, rfl, hw3, fun c => ?_, fun c => ?_⟩
  · rw [e0] at c
    refine Tk_next (by omega) hs hw hK (fun σ1 f1 k1 => ⟨f1.sh hs, rfl, ?_⟩)
    have hs1 := f1.sh hs
    have T1 := hT.k ht f1 (fun a j z => lt27A z) (fun a j z => lt27l z)
    have P1 : LaPre tp M (t + 13) σ1 S (i + 1) := ⟨hs1, k1, T1.2.2.2.1, by omega, f39 f1 hz, him⟩
    have hC := (La_all (G := G) hM (by omega) hw hw3 ha (8 * tp.length + 8)).1
    have hy := (ex_ok (w := w) hM (8 * tp.length + 8) 0 (i + 1) him).1
    refine hC 0 (i + 1) σ1 S d _ (by omega) (by decide) (by omega) P1 (fun v σ2 hV => ?_)
    have FE : ∀ {σ1 σ2 : q_S}, Fk (SEx (t + 13)) SKl σ1 σ2 → Fk (SRt t) (LRt t) σ1 σ2 := fun h => h.mono (fun a j z => by unfold SEx at z; unfold SRt; omega) (fun a j z => Or.inl z)
    rcases hV with ⟨r0, rfl, f2, k2, s2, z2⟩ | ⟨r0, rfl, f2, z2⟩
    · have hs2 := f2.sh hs1
      refine ⟨hs2, _, rfl, fun _ => ?_, fun z => absurd z (by decide)⟩
      refine La_tell_ok (w := w) (by omega) ha hw3 hs2 s2.1 ⟨hs2, rfl, hv _ _ ?_⟩
      have eR : lnL tp s w i = (0, (ex tp w (8 * tp.length + 8) 0 0 (i + 1)).2.1, (s.1, updP s.2.1 w (ex tp w (8 * tp.length + 8) 0 0 (i + 1)).2.2, updB s.2.2.1 w, s.2.2.2)) := by unfold lnL; rw [if_neg c, if_pos r0]
      rw [eR, T1.2.2.2.1.1]
      have hlen := hy.1.2.2 r0
      have F3 : Fk (SRt t) (LRt t) σ σ2 := (FAt f1).tr (FE f2)
      generalize hcode : (ex tp w (8 * tp.length + 8) 0 0 (i + 1)).2.2 = code at *
      generalize (ex tp w (8 * tp.length + 8) 0 0 (i + 1)).2.1 = j2 at *
      have kI : ∀ a j, 27 ≤ a → ¬ (a = t + 13 ∧ j = 5) → a ≠ t + 14 → q_I σ2 a j = q_I σ1 a j := fun a j z1 z2 z3 => f2.2.2.1 _ _ (fun z => by unfold SEx at z; omega)
      have kL : ∀ a j, 27 ≤ a → q_L σ2 a j = q_L σ1 a j := fun a j z1 => f2.2.2.2 _ _ (fun z => by unfold SKl at z; omega)
      obtain ⟨c1, c2, c3, c4, c5⟩ := T1
      refine Or.inl ⟨rfl, rfl, ((((F3.tr (FIt ⟨by omega, by omega⟩)).tr (FIt ⟨by omega, by omega⟩)).tr (FIt ⟨by omega, by omega⟩)).tr (FIt ⟨by omega, by omega⟩)), (((k2.it ht (t := t) ⟨by omega, by omega⟩).it ht (t := t) ⟨by omega, by omega⟩).it ht (t := t) ⟨by omega, by omega⟩).it ht (t := t) ⟨by omega, by omega⟩, ?_, S ++ code, ⟨fun j j1 j2 j3 => ?_, ⟨fun q hq => ?_, fun q hq => ?_⟩, fun y hy => ?_, ⟨?_, fun q hq => ?_⟩, fun w' hw' => ?_⟩, ?_⟩
      · rw [q_I_ne (by omega), q_I_ne (by omega), q_I_ne (by omega), q_I_ne (by omega)]; exact z2
      · have hin := cloc_in (t := t) j1 j2
        rw [q_I_ne (by omega), q_I_ne (by omega), q_I_ne (by omega), q_I_ne (by omega), kI _ _ (by omega) (by omega) (by omega)]
        exact c1 j j1 j2 j3
      · rw [q_L_setI, q_L_setI, q_L_setI, q_L_setI, kL _ _ (by omega)]; exact c2.1 q hq
      · rw [q_L_setI, q_L_setI, q_L_setI, q_L_setI, kL _ _ (by omega)]; exact c2.2 q hq
      · rw [q_L_setI, q_L_setI, q_L_setI, q_L_setI, q_L_setI, q_L_setI, q_L_setI, q_L_setI, kL _ _ (by omega), kL _ _ (by omega)]; exact c3 y hy
      · rw [q_I_ne (by omega), q_I_ne (by omega), q_I_ne (by omega), q_I_ne (by omega)]; exact s2.1
      · rw [q_I_ne (by omega), q_I_ne (by omega), q_I_ne (by omega), q_I_ne (by omega)]; exact s2.2 q hq
      · show q_I _ (t + 17) w' = (if updB s.2.2.1 w w' = true then 1 else 0) ∧ ∃ lo hi : Nat, q_I _ (t + 15) w' = nI lo ∧ q_I _ (t + 16) w' = nI hi ∧ lo ≤ hi ∧ hi ≤ (S ++ code).length ∧ hi - lo = (updP s.2.1 w code w').length ∧ ∀ j, j < hi - lo → (S ++ code).getD (lo + j) 0 = (updP s.2.1 w code w').getD j 0
        by_cases ew : w' = w
        · subst ew
          have b1 : updB s.2.2.1 w' w' = true := by simp [updB]
          have p1 : updP s.2.1 w' code w' = code := by simp [updP]
          rw [b1, p1, if_pos rfl, List.length_append]
          refine ⟨q_I_eq, S.length, S.length + code.length, ?_, ?_, by omega, by omega, by omega, fun j hj => getD_apR⟩
          · rw [q_I_ne (by omega), q_I_ne (by omega), q_I_ne (by omega), q_I_eq]
          · rw [q_I_ne (by omega), q_I_ne (by omega), q_I_eq]
        · have b1 : updB s.2.2.1 w w' = s.2.2.1 w' := by simp [updB, ew]
          have p1 : updP s.2.1 w code w' = s.2.1 w' := by simp [updP, ew]
          obtain ⟨g1, lo, hi', g2, g3, g4, g5, g6, g7⟩ := c5 w' hw'
          rw [b1, p1, List.length_append]
          refine ⟨?_, lo, hi', ?_, ?_, g4, by omega, g6, fun j hj => ?_⟩
          · rw [q_I_ne (by omega), q_I_ne (by omega), q_I_ne (by omega), q_I_ne (by omega), kI _ _ (by omega) (by omega) (by omega)]; exact g1
          · rw [q_I_ne (by omega), q_I_ne (by omega), q_I_ne (by omega), q_I_ne (by omega), kI _ _ (by omega) (by omega) (by omega)]; exact g2
          · rw [q_I_ne (by omega), q_I_ne (by omega), q_I_ne (by omega), q_I_ne (by omega), kI _ _ (by omega) (by omega) (by omega)]; exact g3
          · rw [getD_apL (by omega)]; exact g7 j hj
      · show (S ++ code).length ≤ 15 + j2
        rw [List.length_append]
        omega
    · exact ⟨f2.sh hs1, _, rfl, fun z => absurd rfl z, fun _ => hv _ _ (RdV.bad (by unfold lnL; rw [if_neg c, if_neg r0]) r0 ((FAt f1).tr (FE f2)) z2)⟩
  · rw [e0, Classical.not_not] at c
    exact Tk_refuse_ok (k := 3) hs hK (fun σ1 f1 z1 => ⟨f1.sh hs, _, rfl, rfl, hv _ _ (RdV.bad (by unfold lnL; rw [if_pos c]) (by decide) (F9t f1) z1)⟩)
theorem lnA_v {n : Nat} (h1 : (tk tp i).1 = 1) (hv : (tk tp i).2.2.1 = n) : ∀ w, isW (tk tp i) w = decide (n = w) := fun w => by
  unfold isW
  rw [hv]
  simp [h1]
theorem Rd_line_ok (hM : IsM tp M) (hMl : M ≤ tp.length) (hw : WTp tp) (hd : 40 ≤ d) (ht : q_isTw t) (hP : RdP tp t M σ s S i) (hW : WS s) (hq : ∀ v σ', RdV tp t σ (lnA tp s i) v σ' → Q (some (.int v)) σ') : q_Call G d 0 0 X_Rd_readTownLine [.ref 4, .ref t] σ Q := by
  obtain ⟨d, rfl⟩ : ∃ d', d = d' + 1 := ⟨d - 1, by omega⟩
  have hs := hP.1
  have hK := hP.2.1
  refine q_cii (Pp := RdV tp t σ (lnA tp s i)) (by decide +kernel) (Nat.le_of_ble_eq_true rfl) (fun Q hv => ?_) hq
  have bol : ∀ {r : q_lr} {v : Int32} {σ' : q_S}, RdV tp t σ r v σ' → narrow .boolean (.int v) = .int v ∧ q_Sh σ' := fun h => by
    rcases h with h | h
    · rw [h.2.1]; exact ⟨rfl, h.2.2.1.sh hs⟩
    · rw [h.2.1]; exact ⟨rfl, h.2.2.1.sh hs⟩
  have K : ∀ r, lnA tp s i = r → ∀ v σ', RdV tp t σ r v σ' → q_ri (fun x σ' => narrow .boolean (.int x) = .int x ∧ Q (some (.int x)) σ') (some (.int v)) σ' := fun r e v σ' h => ⟨(bol h).2, _, rfl, (bol h).1, hv _ _ (by rw [e]; exact h)⟩
  have bad : lnA tp s i = (1, i, s) → q_Call G d 0 0 X_Tk_refuse [.ref 3, .int 1] σ (q_ri (fun x11 σ9 => (narrow .boolean (.int x11) = .int x11 ∧ Q (some (.int x11)) σ9))) := fun e => Tk_refuse_ok (k := 1) hs hK (fun σ1 f1 z1 => K _ e _ _ (RdV.bad rfl (by decide) (F9t f1) z1))
  refine v_Rd_readTownLine_0 ht hs ⟨fun c => ?_, fun c => bad ?_⟩
  · rw [show (1 : Int32) = nI 1 from rfl, hK.s1 (by decide)] at c
    have him : i < M := tk_in hM hP.2.2.2.2.2 (by rw [c]; decide)
    have v34 := tk_v33 c
    obtain ⟨s0, s13, s14, s15, s16, s17⟩ := sm_t1 _ v34
    obtain ⟨s18, s19, s20, s21, s22, s23⟩ := sm_t2 _ v34
    have A := fun n (h : (tk tp i).2.2.1 = n) => lnA_v c h
    refine ⟨(tk tp i).2.2.1, (hK.2.2.2.2.1 c).2, v34, (tk tp i).2.2.1, rfl, v34, fun z => ?_, fun z => ?_, fun z => ?_, fun z => ?_, fun z => ?_, fun z => ?_, fun z => ?_, fun z => ?_, fun z => ?_, fun z => ?_, fun z => ?_, fun z => ?_⟩
    · refine bad ?_
      have n0 := s0 z
      have w := fun w (h : (tk tp i).2.2.1 ≠ w) => (show ¬ isW (tk tp i) w = true from fun z => h (isW_t.mp z).2)
      unfold lnA
      rw [if_neg (w 0 (by omega)), if_neg (w 1 (by omega)), if_neg (w 2 (by omega)), if_neg (w 6 (by omega)), if_neg (w 7 (by omega)), if_neg (w 8 (by omega)), if_neg (w 9 (by omega)), if_neg (w 10 (by omega)), if_neg (w 11 (by omega)), if_neg (w 12 (by omega)), if_neg (w 13 (by omega))]
    · exact Rd_house_ok hM hw (by omega) ht hP hW (K _ (by unfold lnA; simp only [A _ (s13 z)]; rfl))
    · exact Rd_wall_ok hM hw (by omega) ht hP hW (K _ (by unfold lnA; simp only [A _ (s14 z)]; rfl))
    · exact Rd_family_ok hM hw (by omega) ht hP hW (K _ (by unfold lnA; simp only [A _ (s15 z)]; rfl))
    · exact Rd_ofTwo_ok (u := 8) (b := 68) (hi0 := 9) hM hw (by omega) ht (Or.inl ⟨rfl, rfl, rfl⟩) hP hW (K _ (by unfold lnA; simp only [A _ (s16 z)]; rfl))
    · exact Rd_ofTwo_ok (u := 9) (b := 104) (hi0 := 9) hM hw (by omega) ht (Or.inr (Or.inl ⟨rfl, rfl, rfl⟩)) hP hW (K _ (by unfold lnA; simp only [A _ (s17 z)]; rfl))
    · exact Rd_ofTwo_ok (u := 10) (b := 140) (hi0 := 99) hM hw (by omega) ht (Or.inr (Or.inr ⟨rfl, rfl, rfl⟩)) hP hW (K _ (by unfold lnA; simp only [A _ (s18 z)]; rfl))
    · exact Rd_apart_ok hM hw (by omega) ht hP hW (K _ (by unfold lnA; simp only [A _ (s19 z)]; rfl))
    · exact Rd_beside_ok hM hw (by omega) ht hP hW (K _ (by unfold lnA; simp only [A _ (s20 z)]; rfl))
    · exact Rd_law_ok (w := 0) (by decide) hM hMl hw (by omega) ht hP him hW (K _ (by unfold lnA; simp only [A _ (s21 z)]; rfl))
    · exact Rd_law_ok (w := 1) (by decide) hM hMl hw (by omega) ht hP him hW (K _ (by unfold lnA; simp only [A _ (s22 z)]; rfl))
    · exact Rd_law_ok (w := 2) (by decide) hM hMl hw (by omega) ht hP him hW (K _ (by unfold lnA; simp only [A _ (s23 z)]; rfl))
  · rw [show (1 : Int32) = nI 1 from rfl, hK.s1 (by decide)] at c
    have w := fun w => (show ¬ isW (tk tp i) w = true from fun z => c (isW_t.mp z).1)
    unfold lnA
    rw [if_neg (w 0), if_neg (w 1), if_neg (w 2), if_neg (w 6), if_neg (w 7), if_neg (w 8), if_neg (w 9), if_neg (w 10), if_neg (w 11), if_neg (w 12), if_neg (w 13)]
end CLINES4
