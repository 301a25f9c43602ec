section MTOWN2
variable {G : q_G} {d : Nat} {σ σ' σ1 : q_S} {Q : Option Value → q_S → Prop} {i M c : Nat} {s : q_ts} {D : Nat → Nat} {P : Nat → List Int32} {N : q_nm} {hm : Nat → Nat} {L : Nat → Int32} {un : List q_lf} {mk : Nat → Option (q_lf × q_tl)} {tl : q_tl} {dy : q_dy} {tp : List Nat}
theorem STm_mj {a i : Nat} (z : STm a i) (h : ¬ (a = 159 ∧ i = 2)) : ¬ mj a i := by
  unfold STm SRl SCu at z
  unfold mj
  omega
theorem STm_hi (hf : Fr STm LTm σ σ') : Fr hi_ hi_ σ σ' := hf.mono (fun a i z => by unfold STm SRl SCu at z; unfold hi_; omega) (fun a i z => by unfold LTm at z; unfold hi_; omega)
theorem M_town_ok (hM : IsM tp M) (hMl : M ≤ tp.length) (hd : 42 ≤ d) (hs : q_Sh σ) (hw : WJ D P N hm L un mk tl dy tp) (hJ : MJ σ D P N L un mk tl dy tp)
    (hq1 : (tnA tp (tp.length + 1) ts0 0).1 = 0 → ∀ σ', Fr hi_ hi_ σ σ' → WS (tnA tp (tp.length + 1) ts0 0).2.2 → MJ σ' (tnA tp (tp.length + 1) ts0 0).2.2.1 (tnA tp (tp.length + 1) ts0 0).2.2.2.1 (tnA tp (tp.length + 1) ts0 0).2.2.2.2.2 (stL (tnA tp (tp.length + 1) ts0 0).2.2.1) [] noM [] [] [] → Q (some (.int 0)) σ')
    (hq0 : (tnA tp (tp.length + 1) ts0 0).1 ≠ 0 → ∀ σ', Fr hi_ hi_ σ σ' → MJ σ' D P N L un mk tl dy [] → Q (some (.int (nI (flt tp (tnA tp (tp.length + 1) ts0 0).1 (tnA tp (tp.length + 1) ts0 0).2.1)))) σ') : q_Call G d 0 0 X_M_town [.ref 159] σ Q := by
  obtain ⟨d, rfl⟩ : ∃ d', d = d' + 1 := ⟨d - 1, by omega⟩
  have htp := hw.2.2.2.2.2.2.2.2.2
  have hl := htp.1
  refine q_cii (Pp := fun v σ' => ((tnA tp (tp.length + 1) ts0 0).1 = 0 ∧ v = 0 ∧ Fr hi_ hi_ σ σ' ∧ WS (tnA tp (tp.length + 1) ts0 0).2.2 ∧ MJ σ' (tnA tp (tp.length + 1) ts0 0).2.2.1 (tnA tp (tp.length + 1) ts0 0).2.2.2.1 (tnA tp (tp.length + 1) ts0 0).2.2.2.2.2 (stL (tnA tp (tp.length + 1) ts0 0).2.2.1) [] noM [] [] []) ∨ ((tnA tp (tp.length + 1) ts0 0).1 ≠ 0 ∧ v = nI (flt tp (tnA tp (tp.length + 1) ts0 0).1 (tnA tp (tp.length + 1) ts0 0).2.1) ∧ Fr hi_ hi_ σ σ' ∧ MJ σ' D P N L un mk tl dy [])) (by decide +kernel) (Nat.le_of_ble_eq_true rfl) (fun Q hv => ?_) (fun v σ' h => by
    rcases h with ⟨a, b, c, e, f⟩ | ⟨a, b, c, e⟩
    · rw [b]; exact hq1 a σ' c e f
    · rw [b]; exact hq0 a σ' c e)
  generalize hr : tnA tp (tp.length + 1) ts0 0 = r at hv
  -- a fault
  have stop : ∀ σ1 k j, r = (k, j, r.2.2) → k ≠ 0 → q_Sh σ1 → Fr STm LTm σ σ1 → q_I σ1 159 2 = 0 → FX σ1 (nI (flt tp k j)) → q_At G X_M_town (d + 1) 0 0 26 [some (.ref 159), none] [] σ1 Q := fun σ1 k j er hk hs1 f1 t1 x1 => by
    refine v_M_town_26 hs1 ⟨fun _ => ⟨fun z => absurd z x1.nle, fun _ => hv _ _ (Or.inr ⟨by rw [er]; exact hk, by rw [x1.1, er], STm_hi f1, ?_⟩)⟩, fun z => absurd z x1.n0⟩
    exact hJ.rd hw f1 (fun a i z y => STm_mj z y) (fun a i z => by unfold LTm at z; unfold mjL; omega) t1
  have lF : ∀ {σ1 σ2 : q_S}, Fr SRl LRl σ1 σ2 → Fr STm LTm σ1 σ2 := fun f => f.mono (fun a i z => Or.inl z) (fun a i z => Or.inl z)
  have l2 : ∀ {σ1 σ2 : q_S}, Fr SRl LRl σ1 σ2 → q_I σ1 159 2 = 0 → q_I σ2 159 2 = 0 := fun f h => by rw [f.2.2.1 _ _ (fun z => by unfold SRl at z; omega)]; exact h
  have lp : ∀ n s i c σ1, M - i < n → MlP tp M σ1 s c i → WS s → Fr STm LTm σ σ1 → q_I σ1 159 2 = 0 → (r.1 = (tnA tp n s i).1 ∧ r.2.1 = (tnA tp n s i).2.1 ∧ ((tnA tp n s i).1 = 0 → r = tnA tp n s i)) → q_At G X_M_town (d + 1) 0 0 26 [some (.ref 159), none] [] σ1 Q := by
    intro n
    induction n with
    | zero => intro s i c σ1 h; omega
    | succ n ih =>
      intro s i c σ1 hn hP hW f1 t1 hrr
      obtain ⟨hs1, hK, hR, hc⟩ := hP
      have h0 := hK.2.2.1
      have hi := hK.2.2.2.1
      have hMb := hK.2.2.2.2
      have l0 : q_I σ1 159 8 ≤ 0 := by rw [h0]; exact Int32.le_refl _
      have h4 := tk_sort (tp := tp) i
      have e0 : (q_I σ1 161 i = 0) ↔ (tk tp i).1 = 0 := by rw [hK.me.1]; exact nI_eq (b := 0) (by omega) (by decide)
      rw [tnA] at hrr
      refine v_M_town_26 hs1 ⟨fun z => absurd h0 z, fun _ => ⟨i, hK.2.1, by omega, fun ce => ⟨fun _ => ?_, fun z => absurd l0 z⟩, fun ce => ?_⟩⟩
      · rw [e0] at ce
        rw [if_pos ce] at hrr
        have er : r = (0, i, s) := hrr.2.2 rfl
        refine M_copy_ok (by omega) (by have := hW.2.2.1.1; omega) hs1 hR (fun σ2 f2 T2 N2 g2 => ?_) (by omega)
        have hs2 := f2.sh hs1
        refine v_M_town_151 hs2 ⟨fun _ => ?_, fun z => absurd (by rw [show q_I σ2 159 19 = nI s.2.2.2.length from N2.1]; exact Int32.le_refl _) z⟩
        rw [show q_I σ2 159 19 = nI s.2.2.2.length from N2.1]
        have f3 : Fr (fun a i => a = 159 ∧ i = 18) noL σ2 (q_setI σ2 159 18 (nI s.2.2.2.length)) := Fr.setI ⟨rfl, rfl⟩
        have T3 := T2.fr f3 (fun a i z => by omega)
        refine M_begins_ok (by omega) (f3.sh hs2) hW.1 hW.2.2.2.2 T3 (fun σ4 f4 T4 L4 g50 g0 g25 g176 => ⟨f4.sh (f3.sh hs2), rfl, hv _ _ (Or.inl ?_)⟩)
        rw [er]
        have F4 : Fr hi_ hi_ σ σ4 := (((STm_hi f1).tr (f2.mono (fun a i z => by unfold SCp at z; unfold hi_; omega) (fun a i z => by unfold LCp at z; unfold hi_; omega))).tr (f3.mono (fun a i z => by unfold hi_; omega) (fun _ _ z => z.elim))).tr (f4.mono (fun a i z => by unfold SBm at z; unfold hi_; omega) (fun _ _ z => z.elim))
        have w34 : ∀ k, k < 33 → q_L σ4 164 k = q_w37.getD k 0 := fun k hk => by
          rw [f4.2.2.2 _ _ (fun z => z), f3.2.2.2 _ _ (fun z => z), f2.2.2.2 _ _ (fun z => by unfold LCp at z; omega)]
          exact hK.1.2 k hk
        refine ⟨rfl, rfl, F4, hW, T4, ⟨⟨?_, w34⟩, fun k x hx => ?_⟩, L4, ⟨g25, fun i u hu => absurd hu (by simp)⟩, fun m hm => ⟨fun _ => g176 m hm, fun x hx => absurd hx (by simp [noM])⟩, ⟨g50, fun k x hx => absurd hx (by simp)⟩, ⟨g0, fun k x hx => absurd hx (by simp)⟩, ⟨?_, fun i x hx => absurd hx (by simp)⟩⟩
        · rw [f4.2.2.1 _ _ (fun z => by unfold SBm at z; omega), q_I_eq]
        · rw [f4.2.2.2 _ _ (fun z => z), f3.2.2.2 _ _ (fun z => z), f4.2.2.1 _ _ (fun z => by unfold SBm at z; omega), f3.2.2.1 _ _ (fun z => by omega)]
          exact g2 k x hx
        · rw [f4.2.2.1 _ _ (fun z => by unfold SBm at z; omega), f3.2.2.1 _ _ (fun z => by omega), f2.2.2.1 _ _ (fun z => by unfold SCp at z; omega)]
          exact t1
      · rw [e0] at ce
        rw [if_neg ce] at hrr
        have him : i < M := tk_in hM hi ce
        have hx := WS_A hM hi hW
        refine M_line_ok (by omega) htp hM hMl him ⟨hs1, hK, hR, hc⟩ hW (fun σ2 hV => ⟨hV.1.sh hs1, rfl, ?_⟩)
        have hs2 := hV.1.sh hs1
        have F2 := f1.tr (lF hV.1)
        have t2 := l2 hV.1 t1
        rcases hV.2 with ⟨r0, k2, c2, R2, hc2⟩ | ⟨r0, x2⟩
        · obtain ⟨x1, x2, x3⟩ := hx r0
          rw [if_pos r0] at hrr
          refine M_takeSign_ok (c := 59) (by omega) (by decide) htp hM hs2 k2 (fun c3 σ3 f3 k3 => ⟨f3.sh hs2, rfl, ?_⟩) (fun c3 σ3 f3 x3' => ⟨f3.sh hs2, rfl, ?_⟩)
          · rw [if_pos c3] at hrr
            exact ih _ _ c2 σ3 (by have := k3.2.2.2.1; omega) ⟨f3.sh hs2, k3, R2.s78 f3, by omega⟩ x1 (F2.tr (lF (S78_l f3))) (l2 (S78_l f3) t2) hrr
          · rw [if_neg c3] at hrr
            exact stop σ3 1 (lnA tp s i).2.1 (Prod.ext hrr.1 (Prod.ext hrr.2.1 rfl)) (by decide) (f3.sh hs2) (F2.tr (lF (S78_l f3))) (l2 (S78_l f3) t2) x3'
        · rw [if_neg r0] at hrr
          exact M_takeSign_no (by omega) hs2 x2 ⟨hs2, rfl, stop σ2 _ _ (Prod.ext hrr.1 (Prod.ext hrr.2.1 rfl)) r0 hs2 F2 t2 x2⟩
  have hTp : MTp (q_setI σ 159 0 0) tp := ⟨by rw [q_I_ne (by decide)]; exact hJ.2.2.2.2.2.2.2.1, fun i x hx => by rw [q_I_ne (by omega)]; exact hJ.2.2.2.2.2.2.2.2 i x hx⟩
  have fT : Fr STm LTm σ (q_setI σ 159 0 0) := Fr.setI (Or.inr (Or.inr ⟨rfl, rfl⟩))
  refine v_M_town_0 hs (M_cut_ok hM hMl (by omega) (fT.sh hs) htp hTp (fun k hk => hJ.2.1.1.2 k hk) (fun σ2 f2 C2 a2 b2 t2 => ⟨f2.sh (fT.sh hs), rfl, ?_⟩))
  have F2 : Fr STm LTm σ σ2 := fT.tr (f2.mono (fun a i z => Or.inr (Or.inl z)) (fun a i z => Or.inr z))
  have f3 : Fr (fun a i => a = 159 ∧ (i = 13 ∨ i = 19)) noL σ2 (q_setI (q_setI σ2 159 13 0) 159 19 0) := (Fr.setI ⟨rfl, Or.inl rfl⟩).tr (Fr.setI ⟨rfl, Or.inr rfl⟩)
  have F3 : Fr STm LTm σ (q_setI (q_setI σ2 159 13 0) 159 19 0) := F2.tr (f3.mono (fun a i z => Or.inl (by unfold SRl; omega)) (fun _ _ z => z.elim))
  refine M_stands_ok (b := 200) (by decide) (F3.sh hs) (fun σ5 f5 g5 h5 => ⟨f5.sh (F3.sh hs), rfl, ?_⟩)
  have F5 : Fr STm LTm σ σ5 := F3.tr (f5.mono (fun a i z => Or.inl (by unfold SRl; omega)) (fun _ _ z => z.elim))
  have k2 : MK σ2 tp M 0 := ⟨C2, a2, b2, Nat.zero_le _, by omega⟩
  have k5 : MK σ5 tp M 0 := (k2.fr f3 (fun a j z => by omega) (fun _ _ z => z.elim)).fr f5 (fun a j z => by omega) (fun _ _ z => z.elim)
  have R5 : MR σ5 ts0 0 := by
    refine ⟨fun j j1 j2 => g5 j j1 j2, fun w hw => Or.inl ⟨rfl, h5 w hw, rfl⟩, ⟨?_, fun k x hx => absurd hx (by simp [ts0])⟩, ?_⟩
    · rw [f5.2.2.1 _ _ (fun z => by omega), q_I_eq]
      rfl
    · rw [f5.2.2.1 _ _ (fun z => by omega), q_I_ne (by decide), q_I_eq]
      rfl
  refine lp (tp.length + 1) ts0 0 0 σ5 (by omega) ⟨F5.sh hs, k5, R5, Nat.le_refl _⟩ WS_0 F5 ?_ ⟨by rw [hr], by rw [hr], fun _ => hr.symm⟩
  rw [f5.2.2.1 _ _ (fun z => by omega), f3.2.2.1 _ _ (fun z => by omega)]
  exact t2
end MTOWN2
