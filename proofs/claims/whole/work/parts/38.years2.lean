section YEARS2
variable {G : q_G} {d : Nat} {σ : q_S} {Q : Option Value → q_S → Prop} {t v u b b' f e n : Nat} {D hm : Nat → Nat} {P : Nat → List Int32} {L : Nat → Int32} {c : Int32} {g : Nat → Nat} {kb : Nat → Nat → Nat}
theorem M_years_ok (hg : g = rN) (hkb : kb = bN) (hs : q_Sh σ) (hD : WfD D) (hT : MT0 σ D P) (hL : ML σ 1804 L) (hw : WL D hm L) (hn : q_L σ 159 28 = lN n) (hl : n < 2147483648) (hq : ∀ σ', Fr (SMd 1804) L159 σ σ' → ML σ' 1804 (rdL D (lyr g kb D hm L n).1 (lyr g kb D hm L n).2.1 (lyr g kb D hm L n).2.2) → q_L σ' 159 28 = lN (rdN D (lyr g kb D hm L n).2.2) → Q none σ') : q_Call G (d + 3) 0 0 X_M_drawsYears [.ref 159] σ Q := by
  have h6 := hD.F6
  refine q_cv0 (P := fun σ' => Fr (SMd 1804) L159 σ σ' ∧ ML σ' 1804 (rdL D (lyr g kb D hm L n).1 (lyr g kb D hm L n).2.1 (lyr g kb D hm L n).2.2) ∧ q_L σ' 159 28 = lN (rdN D (lyr g kb D hm L n).2.2)) (by decide +kernel) (Nat.le_of_ble_eq_true rfl) (fun Q hq => ?_) (fun σ' h => hq σ' h.1 h.2.1 h.2.2)
  have kT : ∀ σ1, Fr (SMd 1804) L159 σ σ1 → MT0 σ1 D P := fun σ1 fr => hT.fr fr (fun a i h => by unfold SMd at h; omega)
  have mS : ∀ {σ1 σ2 : q_S}, Fr (SMb 1804) noL σ1 σ2 → Fr (SMd 1804) L159 σ1 σ2 := fun h => h.mono (fun _ _ h => Or.inl h) (fun _ _ h => h.elim)
  -- the draw at the end
  have fin : ∀ (σ1 : q_S), Fr (SMd 1804) L159 σ σ1 → ML σ1 1804 (lyr g kb D hm L n).2.1 → q_L σ1 159 28 = lN (lyr g kb D hm L n).2.2 → q_Call G (d + 2) 0 0 X_M_draws [.ref 159, .int 1804] σ1 (q_ri (fun x6 σ4 => Q none σ4)) := fun σ1 fr g1 g2 =>
    M_draws_ok (b := 1804) (fr.sh hs) hD (kT σ1 fr) g1 (WL_lyr hkb hD hw).1 (by decide) g2 (lyr_lt hg hl) (fun σ2 f2 k1 k2 => ⟨f2.sh (fr.sh hs), _, rfl, hq σ2 ⟨fr.tr f2, k1, k2⟩⟩)
  refine v_M_drawsYears_0 hs ⟨fun c => ?_, fun c => ?_⟩
  · rw [hT.F] at c
    have h2 : D 1 < 2 := Nat.lt_of_not_le (fun h => ge_not (a := 1) (b := D 1) c h (by omega))
    rw [lyr, if_pos h2] at fin
    exact fin σ Fr.rf hL hn
  · rw [hT.F] at c ⊢
    have h2 : 2 ≤ D 1 := Nat.lt_of_not_le (fun h => c (nI_le (b := 1) h (by omega)))
    have e1 : lyr g kb D hm L n = ly2 g kb (D 1) hm (ly1 D hm L (kb (g n) (D 1)) (kb (g (g n)) (D 1))) (g (g n)) := by rw [lyr, if_neg (by omega)]
    rw [e1] at fin
    have tail : ∀ (σ1 : q_S) (L1 : Nat → Int32), Fr (SMd 1804) L159 σ σ1 → ML σ1 1804 L1 → q_L σ1 159 28 = lN (g (g n)) → L1 = ly1 D hm L (kb (g n) (D 1)) (kb (g (g n)) (D 1)) → q_Call G (d + 2) 0 0 X_M_drawBelow [.ref 159, .int 10] σ1 (q_ri (fun x25 σ23 => ((¬ x25 = 0 → q_Call G (d + 2) 0 0 X_M_draws [.ref 159, .int 1804] σ23 (q_ri (fun x31 σ29 => Q none σ29))) ∧ (x25 = 0 → q_Call G (d + 2) 0 0 X_M_drawBelow [.ref 159, .int (q_I σ23 165 1)] σ23 (q_ri (fun x36 σ34 => q_Call G (d + 2) 0 0 X_M_drawBelow [.ref 159, .int (q_I σ34 165 1)] σ34 (q_ri (fun x40 σ38 => q_Call G (d + 2) 0 0 X_M_swaps [.ref 159, .int 1804, .int x36, .int x40] σ38 (q_rv (fun σ42 => q_Call G (d + 2) 0 0 X_M_draws [.ref 159, .int 1804] σ42 (q_ri (fun x47 σ45 => Q none σ45)))))))))))) := by
      intro σ1 L1 fr g1 g2 e1
      rw [← e1] at fin
      have b10 := kb_lt hkb (g (g (g n))) (m := 10) (by decide)
      have f3 : Fr (SMd 1804) L159 σ (q_setL σ1 159 28 (lN (g (g (g n))))) := fr.tr (Fr.setL ⟨rfl, rfl⟩)
      refine M_below_g (m := 10) hg hkb (fr.sh hs) g2 (g_lt hg _) (by decide) (by decide) ⟨fr.sh hs, _, rfl, fun c => ?_, fun c => ?_⟩
      · rw [← nI_0, nI_eq (by omega) (by omega)] at c
        rw [ly2, if_neg c] at fin
        exact fin _ f3 g1 q_L_eq
      · rw [← nI_0, nI_eq (by omega) (by omega)] at c
        rw [ly2, if_pos c] at fin
        rw [(kT _ f3).F]
        refine M_below_g hg hkb (f3.sh hs) q_L_eq (g_lt hg _) (by omega) (by omega) ⟨f3.sh hs, _, rfl, ?_⟩
        have f4 := f3.tr (Fr.setL (a := 159) (i := 28) (v := lN (g (g (g (g n))))) (SI := SMd 1804) ⟨rfl, rfl⟩)
        dsimp only
        rw [(kT _ f4).F]
        refine M_below_g hg hkb (f4.sh hs) q_L_eq (g_lt hg _) (by omega) (by omega) ⟨f4.sh hs, _, rfl, ?_⟩
        have f5 := f4.tr (Fr.setL (a := 159) (i := 28) (v := lN (g (g (g (g (g n)))))) (SI := SMd 1804) ⟨rfl, rfl⟩)
        have x1 := kb_lt hkb (g (g (g (g n)))) (m := D 1) (by omega)
        have x2 := kb_lt hkb (g (g (g (g (g n))))) (m := D 1) (by omega)
        refine M_swap_ok (b := 1804) (f5.sh hs) (L := L1) g1 (by decide) (by omega) (by omega) (fun σ6 f6 g6 => ⟨f6.sh (f5.sh hs), rfl, ?_⟩)
        exact fin σ6 (f5.tr (mS f6)) g6 (by rw [f6.2.2.2 _ _ (fun z => z)]; exact q_L_eq)
    have y1 := kb_lt hkb (g n) (m := D 1) (by omega)
    have y2 := kb_lt hkb (g (g n)) (m := D 1) (by omega)
    refine M_below_g hg hkb hs hn hl (by omega) (by omega) ⟨hs, _, rfl, ?_⟩
    have f1 : Fr (SMd 1804) L159 σ (q_setL σ 159 28 (lN (g n))) := Fr.setL ⟨rfl, rfl⟩
    dsimp only
    rw [(kT _ f1).F]
    refine M_below_g hg hkb (f1.sh hs) q_L_eq (g_lt hg _) (by omega) (by omega) ⟨f1.sh hs, _, rfl, ?_⟩
    have f2 : Fr (SMd 1804) L159 σ (q_setL (q_setL σ 159 28 (lN (g n))) 159 28 (lN (g (g n)))) := f1.tr (Fr.setL ⟨rfl, rfl⟩)
    refine M_mayLend_ok (d := d + 1) (b := 1804) (f2.sh hs) hD (kT _ f2) (L := L) hL hw.1 (by decide) y1 y2 ⟨f2.sh hs, _, rfl, fun c2 => ?_, fun c2 => ?_⟩
    · refine tail _ L f2 hL q_L_eq ?_
      rw [ly1]
      by_cases q1 : L (6 + kb (g n) (D 1)) < 1
      · rw [if_pos q1]
      · rw [if_neg q1, if01] at c2
        rw [if_neg q1, if_pos c2]
    · refine M_lends_ok (d := d + 1) (b := 1804) (f2.sh hs) (L := L) hL (by decide) (by omega) (by omega) (fun σ6 f6 g6 => ⟨f6.sh (f2.sh hs), rfl, ?_⟩)
      refine tail σ6 _ (f2.tr (mS f6)) g6 (by rw [f6.2.2.2 _ _ (fun z => z)]; exact q_L_eq) ?_
      rw [ly1]
      by_cases q1 : L (6 + kb (g n) (D 1)) < 1
      · rw [if_pos q1] at c2; exact absurd rfl c2
      · rw [if_neg q1, if01] at c2
        rw [if_neg q1, if_neg c2]
end YEARS2
