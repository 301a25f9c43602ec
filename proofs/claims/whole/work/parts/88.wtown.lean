-- how large what is wrong is
theorem exJ_le {r : q_xr} {k : Nat → q_xr} (h1 : r.1 ≤ 9) (h2 : ∀ j, (k j).1 ≤ 9) : (exJ r k).1 ≤ 9 := by
  by_cases c : r.1 = 0
  · rw [exJ_0 c]; exact h2 _
  · rw [exJ_n c]; exact h1
theorem exO_le {r : q_xr} {o : Int32} (h1 : r.1 ≤ 9) : (exO r o).1 ≤ 9 := by
  by_cases c : r.1 = 0
  · rw [exO_0 c]; exact Nat.zero_le 9
  · rw [exO_n c]; exact h1
theorem ite_le {c : Prop} [Decidable c] {x y : q_xr} (h1 : x.1 ≤ 9) (h2 : y.1 ≤ 9) : (if c then x else y).1 ≤ 9 := by
  split
  · exact h1
  · exact h2
theorem ex_le {tp : List Nat} {w : Nat} : ∀ n m e i, (ex tp w n m e i).1 ≤ 9
  | 0, m, e, i => Nat.le_refl 9
  | n + 1, m, e, i => by
    have ih := ex_le (tp := tp) (w := w) n
    have z0 : ∀ {j : Nat}, ((0, j, []) : q_xr).1 ≤ 9 := fun {_} => Nat.zero_le 9
    have z1 : ∀ {j : Nat}, ((1, j, []) : q_xr).1 ≤ 9 := fun {_} => (by decide : (1 : Nat) ≤ 9)
    have z5 : ∀ {j : Nat}, ((5, j, []) : q_xr).1 ≤ 9 := fun {_} => (by decide : (5 : Nat) ≤ 9)
    have zz : ∀ {j : Nat} {l : List Int32}, ((0, j, l) : q_xr).1 ≤ 9 := fun {_ _} => Nat.zero_le 9
    rw [ex]
    refine ite_le (exJ_le (ih _ _ _) (fun j => ih _ _ _)) (ite_le (ite_le (exJ_le (exO_le (ih _ _ _)) (fun j => ih _ _ _)) (ite_le (exJ_le (exO_le (ih _ _ _)) (fun j => ih _ _ _)) z0)) (ite_le (exJ_le (ih _ _ _) (fun j => ite_le (exO_le (ih _ _ _)) (ite_le (exO_le (ih _ _ _)) z0))) (ite_le (exJ_le (ih _ _ _) (fun j => ih _ _ _)) (ite_le (ite_le (exJ_le (exO_le (ih _ _ _)) (fun j => ih _ _ _)) (ite_le (exJ_le (exO_le (ih _ _ _)) (fun j => ih _ _ _)) z0)) (ite_le (exJ_le (ih _ _ _) (fun j => ih _ _ _)) (ite_le (ite_le (exJ_le (exO_le (ih _ _ _)) (fun j => ih _ _ _)) z0) (ite_le (ite_le z5 zz) (ite_le (ite_le z5 zz) (ite_le (ite_le z5 (exO_le (ih _ _ _))) (ite_le (ite_le z5 (exJ_le (ih _ _ _) (fun j => ite_le z0 z1))) z1))))))))))
theorem itn_le {c : Prop} [Decidable c] {x y : Nat} (h1 : x ≤ 9) (h2 : y ≤ 9) : (if c then x else y) ≤ 9 := by
  split
  · exact h1
  · exact h2
theorem itp_le {c : Prop} [Decidable c] {x y : Nat × Nat} (h1 : x.1 ≤ 9) (h2 : y.1 ≤ 9) : (if c then x else y).1 ≤ 9 := by
  split
  · exact h1
  · exact h2
theorem itl_le {c : Prop} [Decidable c] {x y : q_lr} (h1 : x.1 ≤ 9) (h2 : y.1 ≤ 9) : (if c then x else y).1 ≤ 9 := by
  split
  · exact h1
  · exact h2
theorem tdF_le {N : q_nm} {b : Nat} {T : q_tk} : tdF N b T ≤ 9 := by unfold tdF; exact itn_le (itn_le (by decide) (by decide)) (by decide)
theorem nwF_le {N : q_nm} {T : q_tk} : nwF N T ≤ 9 := by unfold nwF; exact itn_le (itn_le (by decide) (by decide)) (by decide)
theorem nmF_le {T : q_tk} {lo hi : Nat} : nmF T lo hi ≤ 9 := by unfold nmF; exact itn_le (itn_le (by decide) (itn_le (by decide) (by decide))) (by decide)
theorem twF_le {tp : List Nat} {N : q_nm} {b i : Nat} : (twF tp N b i).1 ≤ 9 := by unfold twF; exact itp_le (itp_le (itp_le (by decide : (3 : Nat) ≤ 9) (Nat.zero_le 9)) tdF_le) tdF_le
theorem trF_le {tp : List Nat} {w hi i : Nat} : (trF tp w hi i).1 ≤ 9 := by unfold trF; exact itp_le (itp_le (Nat.zero_le 9) nmF_le) (by decide : (1 : Nat) ≤ 9)
theorem fmF_le {tp : List Nat} {N : q_nm} {i : Nat} : (fmF tp N i).1 ≤ 9 := by unfold fmF; exact itp_le (itp_le (by decide : (1 : Nat) ≤ 9) (itp_le (itp_le trF_le trF_le) trF_le)) nwF_le
theorem lnA_le {tp : List Nat} {s : q_ts} {i : Nat} : (lnA tp s i).1 ≤ 9 := by
  have H : (lnH tp s i).1 ≤ 9 := by unfold lnH; exact itl_le (by decide : (5 : Nat) ≤ 9) (itl_le (Nat.zero_le 9) nwF_le)
  have W : (lnW tp s i).1 ≤ 9 := by unfold lnW; exact itl_le (itl_le (itl_le (Nat.zero_le 9) nmF_le) (by decide : (3 : Nat) ≤ 9)) twF_le
  have F : (lnF tp s i).1 ≤ 9 := by unfold lnF; exact itl_le (by decide : (5 : Nat) ≤ 9) (itl_le (Nat.zero_le 9) fmF_le)
  have T : ∀ b hi, (lnT tp s b hi i).1 ≤ 9 := fun b hi => by unfold lnT; exact itl_le (itl_le (itl_le (Nat.zero_le 9) nmF_le) (by decide : (3 : Nat) ≤ 9)) twF_le
  have C : ∀ x, (lnC tp s x i).1 ≤ 9 := fun x => by unfold lnC; exact itl_le (by decide : (5 : Nat) ≤ 9) (itl_le (Nat.zero_le 9) twF_le)
  have K : ∀ w, (lnL tp s w i).1 ≤ 9 := fun w => by unfold lnL; exact itl_le (by decide : (3 : Nat) ≤ 9) (itl_le (Nat.zero_le 9) (ex_le _ _ _ _))
  unfold lnA
  exact itl_le H (itl_le W (itl_le F (itl_le (T _ _) (itl_le (T _ _) (itl_le (T _ _) (itl_le (C _) (itl_le (C _) (itl_le (K _) (itl_le (K _) (itl_le (K _) (by decide : (1 : Nat) ≤ 9)))))))))))
theorem tnA_le {tp : List Nat} : ∀ n s i, (tnA tp n s i).1 ≤ 9
  | 0, s, i => Nat.le_refl 9
  | n + 1, s, i => by
    rw [tnA]
    exact itl_le (Nat.zero_le 9) (itl_le (itl_le (tnA_le n _ _) (by decide : (1 : Nat) ≤ 9)) lnA_le)
theorem flt_ne {tp : List Nat} {k i : Nat} (hl : tp.length ≤ 1000) (hk : k ≠ 0) (h9 : k ≤ 9) : ¬ nI (flt tp k i) = 0 := by
  have := ps_le (tp := tp) i
  unfold flt
  exact nI_ne0 (by omega) (by omega)
def Fq (σ σ' : q_S) : Prop := q_Sh σ' ∧ ∀ a i, 159 ≤ a → q_I σ' a i = q_I σ a i ∧ q_L σ' a i = q_L σ a i
def noM : Nat → Option (q_lf × q_tl) := fun _ => none
theorem frz_012 : ∀ x ∈ q_frz, ¬ (x.1 = 0 ∧ 12 ≤ x.2.1) := by decide +kernel
theorem Sh_setR {σ : q_S} {k : Nat} {v : Option Nat} (hk : 12 ≤ k) (hs : q_Sh σ) : q_Sh (q_setR σ 0 k v) := ⟨hs.1, fun x hx => by rw [q_setR_R, if_neg (fun z => frz_012 x hx ⟨z.1, by omega⟩)]; exact hs.2 x hx⟩
section WTOWN
variable {G : q_G} {d : Nat} {σ σ' σ1 : q_S} {Q : Option Value → q_S → Prop} {t p M : Nat} {D : Nat → Nat} {P : Nat → List Int32} {N : q_nm} {hm : Nat → Nat} {L : Nat → Int32} {un : List q_lf} {mk : Nat → Option (q_lf × q_tl)} {tl : q_tl} {dy : q_dy} {tp : List Nat}
theorem CJ.rr {R : Nat → Nat → Option Nat} {n : Nat} (h : CJ σ t p D P N L un mk tl dy tp) (hR : ∀ k, 12 ≤ k → k ≤ 15 → R 0 k = q_R σ 0 k) : CJ (n, q_I σ, q_L σ, R) t p D P N L un mk tl dy tp := by
  obtain ⟨⟨⟨a1, a2, t', a3, a4, a5⟩, ⟨b1, b2, p', b3, b4, b5⟩, c3, c4, c5, c6, c7, c8, c9, c10⟩, hK⟩ := h
  refine ⟨⟨⟨(hR 12 (by decide) (by decide)).trans a1, a2, t', (hR 13 (by decide) (by decide)).trans a3, a4, a5⟩, ⟨(hR 14 (by decide) (by decide)).trans b1, b2, p', (hR 15 (by decide) (by decide)).trans b3, b4, b5⟩, c3, c4, c5, c6, c7, c8, c9, c10⟩, hK⟩
-- what is read changes nothing else
theorem CJ.rd {SI SL : Nat → Nat → Prop} (hw : WJ D P N hm L un mk tl dy tp) (hJ : CJ σ t p D P N L un mk tl dy tp) (hf : Fk SI SL σ σ') (hI : ∀ a i, SI a i → ¬ cj t p a i) (hL : ∀ a i, SL a i → ¬ cjL t a i) (hI2 : ∀ a i, SI a i → a < 5 ∨ 11 ≤ a) (hL2 : ∀ a i, SL a i → a < 5 ∨ 11 ≤ a) : CJ (q_setI σ' 1 1 0) t p D P N L un mk tl dy [] := by
  have f1 : Fr SI SL σ (q_n σ', q_I σ', q_L σ', q_R σ) := ⟨hf.1, rfl, hf.2.2.1, hf.2.2.2⟩
  have J1 : CJ (q_n σ', q_I σ', q_L σ', q_R σ) t p D P N L un mk tl dy tp := ⟨hJ.1.fr hw.2.2.2.2.2.1.1 f1 hI hL, hJ.2.fr f1 hI2 hL2⟩
  have J2 := J1.tape (σ' := q_setI (q_n σ', q_I σ', q_L σ', q_R σ) 1 1 0) (tp' := []) hw.2.2.2.2.2.1.1 (Fr.setI (Or.inr ⟨rfl, rfl⟩)) ⟨q_I_eq, fun i x hx => absurd hx (by simp)⟩
  have J3 := J2.rr (R := q_R σ') (n := q_n σ') (fun k _ _ => hf.2.1 0 k (by omega))
  exact J3
theorem W_town_ok (hM : IsM tp M) (hMl : M ≤ tp.length) (hd : 42 ≤ d) (hs : q_Sh σ) (hw : WJ D P N hm L un mk tl dy tp) (hJ : CJ σ t p D P N L un mk tl dy tp)
    (hq1 : (tnA tp (tp.length + 1) ts0 0).1 = 0 → ∀ σ' t', Fq σ σ' → WS (tnA tp (tp.length + 1) ts0 0).2.2 → CJ σ' t' p (tnA tp (tp.length + 1) ts0 0).2.2.1 (tnA tp (tp.length + 1) ts0 0).2.2.2.1 (tnA tp (tp.length + 1) ts0 0).2.2.2.2.2 (stL (tnA tp (tp.length + 1) ts0 0).2.2.1) [] noM [] [] [] → Q (some (.int 0)) σ')
    (hq0 : (tnA tp (tp.length + 1) ts0 0).1 ≠ 0 → ∀ σ', Fq σ σ' → CJ σ' t p D P N L un mk tl dy [] → Q (some (.int (nI (flt tp (tnA tp (tp.length + 1) ts0 0).1 (tnA tp (tp.length + 1) ts0 0).2.1)))) σ') : q_Call G d 0 0 X_W_town [.ref 0] σ Q := by
  obtain ⟨d, rfl⟩ : ∃ d', d = d' + 1 := ⟨d - 1, by omega⟩
  generalize hr : tnA tp (tp.length + 1) ts0 0 = r at *
  refine q_cii (Pp := fun v σ' => (r.1 = 0 ∧ v = 0 ∧ ∃ t', Fq σ σ' ∧ WS r.2.2 ∧ CJ σ' t' p r.2.2.1 r.2.2.2.1 r.2.2.2.2.2 (stL r.2.2.1) [] noM [] [] []) ∨ (r.1 ≠ 0 ∧ v = nI (flt tp r.1 r.2.1) ∧ Fq σ σ' ∧ CJ σ' t p D P N L un mk tl dy [])) (by decide +kernel) (Nat.le_of_ble_eq_true rfl) (fun Q hv => ?_) (fun v σ' h => by
    rcases h with ⟨a, b, t', c, e, f⟩ | ⟨a, b, c, e⟩
    · rw [b]; exact hq1 a σ' t' c e f
    · rw [b]; exact hq0 a σ' c e)
  have htp := hw.2.2.2.2.2.2.2.2.2
  have hl := htp.1
  obtain ⟨⟨a1, a2, t2, a3, a4, a5⟩, ⟨b1, b2, p2, b3, b4, b5⟩, c3, c4, c5, c6, c7, c8, c9, c10⟩ := hJ.1
  have ht := isTw_cases a2
  have ht2 := isTw_cases a4
  have hp := isDy_cases b2
  refine v_W_town_0 hs ⟨t2, a3, a4, Rd_town_ok hM hMl htp (by omega) a4 hs c10 (fun v σ4 hV => ?_)⟩
  obtain ⟨f4, hV⟩ := hV
  have hs4 := f4.sh hs
  have hq5 : Fq σ (q_setI σ4 1 1 0) := ⟨hs4, fun a i z => ⟨by rw [q_I_ne (by omega)]; exact f4.2.2.1 _ _ (fun y => by unfold SRd_ Sc at y; omega), by rw [q_L_setI]; exact f4.2.2.2 _ _ (fun y => by unfold LRt at y; omega)⟩⟩
  rw [hr] at hV
  rcases hV with ⟨r0, rfl, T4, N4, W4⟩ | ⟨r0, rfl⟩
  · refine ⟨hs4, _, rfl, fun z => absurd rfl z, fun _ => ⟨t, (f4.2.1 0 12 (by omega)).trans a1, a2, t2, (f4.2.1 0 13 (by omega)).trans a3, a4, ?_⟩⟩
    have hs6 : q_Sh (q_setR (q_setR (q_setI σ4 1 1 0) 0 12 (some t2)) 0 13 (some t)) := Sh_setR (by decide) (Sh_setR (by decide) hs4)
    have T6 : CT (q_setR (q_setR (q_setI σ4 1 1 0) 0 12 (some t2)) 0 13 (some t)) t2 r.2.2.1 r.2.2.2.1 := T4.keep (fun a i z => (show q_I (q_setI σ4 1 1 0) a i = q_I σ4 a i from q_I_ne (by unfold TC at z; omega))) (fun i => rfl)
    have r12 : q_R (q_setR (q_setR (q_setI σ4 1 1 0) 0 12 (some t2)) 0 13 (some t)) 0 12 = some t2 := by rw [q_setR_R, if_neg (by decide), q_R_at]
    have r13 : q_R (q_setR (q_setR (q_setI σ4 1 1 0) 0 12 (some t2)) 0 13 (some t)) 0 13 = some t := q_R_at
    have r14 : q_R (q_setR (q_setR (q_setI σ4 1 1 0) 0 12 (some t2)) 0 13 (some t)) 0 14 = some p := by rw [q_setR_R, if_neg (by decide), q_setR_R, if_neg (by decide)]; exact (f4.2.1 0 14 (by omega)).trans b1
    have r15 : q_R (q_setR (q_setR (q_setI σ4 1 1 0) 0 12 (some t2)) 0 13 (some t)) 0 15 = some p2 := by rw [q_setR_R, if_neg (by decide), q_setR_R, if_neg (by decide)]; exact (f4.2.1 0 15 (by omega)).trans b3
    refine W_anew_ok (by omega) a4 b2 hs6 r12 r14 W4.1 T6.1 (fun σ7 f7 g1 g2 g3 g4 g5 g6 => ⟨f7.sh hs6, rfl, hv _ _ (Or.inl ⟨r0, rfl, t2, ⟨f7.sh hs6, fun a i z => ?_⟩, W4, ⟨⟨⟨by rw [f7.2.1]; exact r12, a4, t, by rw [f7.2.1]; exact r13, a2, fun z => a5 z.symm⟩, ⟨by rw [f7.2.1]; exact r14, b2, p2, by rw [f7.2.1]; exact r15, b4, b5⟩, T6.keep (fun a i z => f7.2.2.1 _ _ (fun y => by unfold TC at z; unfold SBg at y; omega)) (fun i => f7.2.2.2 _ _ (fun y => by omega)), N4.keep (fun i => f7.2.2.2 _ _ (fun y => by omega)) (fun i => f7.2.2.2 _ _ (fun y => by omega)), g1, ?_, fun m hm => ⟨fun _ => g5 m hm, fun x hx => absurd hx (by simp [noM])⟩, g3, ⟨g2, fun k x hx => absurd hx (by simp)⟩, ?_, fun i x hx => absurd hx (by simp)⟩, Or.inl g6⟩⟩)⟩)
    · have h5 := hq5.2 a i z
      refine ⟨?_, ?_⟩
      · rw [f7.2.2.1 _ _ (fun y => by unfold SBg at y; omega)]; exact h5.1
      · rw [f7.2.2.2 _ _ (fun y => by omega)]; exact h5.2
    · obtain ⟨e, e1, e2, _⟩ := c6
      refine ⟨e, e1, ?_, g4, fun i u hu => absurd hu (by simp)⟩
      rw [f7.2.2.1 _ _ (fun y => by unfold SBg at y; omega)]
      show q_I (q_setI σ4 1 1 0) 0 16 = nI e
      rw [q_I_ne (by decide), f4.2.2.1 _ _ (fun y => by unfold SRd_ Sc at y; omega)]
      exact e2
    · rw [f7.2.2.1 _ _ (fun y => by unfold SBg at y; omega)]
      show q_I (q_setI σ4 1 1 0) 1 1 = nI 0
      rw [q_I_eq]
      rfl
  · have r9 : r.1 ≤ 9 := by rw [← hr]; exact tnA_le _ _ _
    have J5 : CJ (q_setI σ4 1 1 0) t p D P N L un mk tl dy [] := by
      refine hJ.rd hw f4 (fun a i z => ?_) (fun a i z => by unfold LRt at z; unfold cjL; omega) (fun a i z => by unfold SRd_ Sc at z; omega) (fun a i z => by unfold LRt at z; omega)
      unfold SRd_ at z
      rcases z with z | z | z | z
      · unfold cj TC; omega
      · unfold cj TC; omega
      · unfold cj TC; omega
      · exact Sc_cj a2 b2 z
    refine ⟨hs4, _, rfl, fun _ => hv _ _ (Or.inr ⟨r0, rfl, hq5, J5⟩), fun z => absurd z (flt_ne hl r0 r9)⟩
end WTOWN
