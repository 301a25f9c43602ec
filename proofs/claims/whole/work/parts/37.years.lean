-- what happens between two draws
theorem WL_swp {D hm : Nat → Nat} {L : Nat → Int32} {f e : Nat} (hD : WfD D) (h : WL D hm L) (hf : f < D 1) (he : e < D 1) : WL D (swpN hm f e) (swpL L f e) := by
  have h6 := hD.F6
  refine ⟨fun k hk => ?_, fun a b ha hb hab => ?_, fun i hi h1 => ?_⟩
  · unfold swpN swpL
    by_cases c1 : k = e
    · subst c1
      rw [upd_at, if_pos rfl]
      exact h.1 f hf
    · rw [upd_ne c1, if_neg c1]
      by_cases c2 : k = f
      · subst c2
        rw [upd_at, if_pos rfl]
        exact h.1 e he
      · rw [upd_ne c2, if_neg c2]
        exact h.1 k hk
  · unfold swpN at hab
    by_cases c1 : a = e <;> by_cases c2 : b = e <;> by_cases c3 : a = f <;> by_cases c4 : b = f <;> simp only [c1, c2, c3, c4, if_true, if_false] at hab <;> first | omega | (have := h.2.1 _ _ (by omega) (by omega) hab; omega) | (split at hab <;> first | omega | (have := h.2.1 _ _ (by omega) (by omega) hab; omega) | (split at hab <;> first | omega | (have := h.2.1 _ _ (by omega) (by omega) hab; omega)))
  · unfold swpL
    rw [upd_ne (by omega), upd_ne (by omega)]
    exact h.2.2 i hi h1
theorem mv_out {L : Nat → Int32} {f e i : Nat} {c : Int32} (h1 : i ≠ 6 + f) (h2 : i ≠ 6 + e) : mvL L f e c i = L i := by
  unfold mvL
  rw [upd_ne h2, upd_ne h1]
theorem WL_len {D hm : Nat → Nat} {L : Nat → Int32} {f e : Nat} {c : Int32} (hD : WfD D) (h : WL D hm L) (hf : f < D 1) (he : e < D 1) : WL D hm (lenL L f e c) := by
  have h6 := hD.F6
  refine ⟨fun k hk => ?_, h.2.1, fun i hi h1 => ?_⟩
  · unfold lenL
    rw [upd_ne (by omega), mv_out (by omega) (by omega)]
    exact h.1 k hk
  · unfold lenL
    rw [upd_ne (by omega), mv_out (by omega) (by omega)]
    exact h.2.2 i hi h1
theorem WL_pay {D hm : Nat → Nat} {L : Nat → Int32} {f e : Nat} {c : Int32} (hD : WfD D) (h : WL D hm L) (hf : f < D 1) (he : e < D 1) : WL D hm (payL L f e c) := by
  have h6 := hD.F6
  refine ⟨fun k hk => ?_, h.2.1, fun i hi h1 => ?_⟩
  · unfold payL
    rw [upd_ne (by omega), mv_out (by omega) (by omega)]
    exact h.1 k hk
  · unfold payL
    rw [upd_ne (by omega), mv_out (by omega) (by omega)]
    exact h.2.2 i hi h1
-- the loan, the swap
def ly1 (D hm : Nat → Nat) (L : Nat → Int32) (a b : Nat) : Nat → Int32 := if L (6 + a) < 1 then L else if thk D hm a b = 0 then L else lenL L a b 1
def ly2 (g : Nat → Nat) (kb : Nat → Nat → Nat) (F : Nat) (hm : Nat → Nat) (L : Nat → Int32) (n : Nat) : (Nat → Nat) × (Nat → Int32) × Nat :=
  if kb (g n) 10 = 0 then (swpN hm (kb (g (g n)) F) (kb (g (g (g n))) F), swpL L (kb (g (g n)) F) (kb (g (g (g n))) F), g (g (g n))) else (hm, L, g n)
def lyr (g : Nat → Nat) (kb : Nat → Nat → Nat) (D hm : Nat → Nat) (L : Nat → Int32) (n : Nat) : (Nat → Nat) × (Nat → Int32) × Nat :=
  if D 1 < 2 then (hm, L, n) else ly2 g kb (D 1) hm (ly1 D hm L (kb (g n) (D 1)) (kb (g (g n)) (D 1))) (g (g n))
theorem WL_ly1 {D hm : Nat → Nat} {L : Nat → Int32} {a b : Nat} (hD : WfD D) (h : WL D hm L) (ha : a < D 1) (hb : b < D 1) : WL D hm (ly1 D hm L a b) := by
  unfold ly1
  split
  · exact h
  · split
    · exact h
    · exact WL_len hD h ha hb
theorem thk_self' {D hm : Nat → Nat} {L : Nat → Int32} {a b : Nat} (hD : WfD D) (hw : ∀ f, f < D 1 → L f = nI (hm f) ∧ hm f < D 0) (ha : a < D 1) (h : a = b) : thk D hm a b = 0 := by
  subst h
  exact thk_self hD (hw a ha).2
section LYR
variable {g : Nat → Nat} {kb : Nat → Nat → Nat} {D hm : Nat → Nat} {L : Nat → Int32} {n : Nat}
theorem g_lt (hg : g = rN) (n : Nat) : g n < 2147483648 := by rw [hg]; exact rN_lt n
theorem kb_lt (hk : kb = bN) (n : Nat) {m : Nat} (h : 0 < m) : kb n m < m := by rw [hk]; exact bN_lt n h
theorem WL_ly2 (hk : kb = bN) (hD : WfD D) (h : WL D hm L) (h0 : 0 < D 1) : WL D (ly2 g kb (D 1) hm L n).1 (ly2 g kb (D 1) hm L n).2.1 := by
  by_cases c : kb (g n) 10 = 0
  · rw [ly2, if_pos c]
    exact WL_swp hD h (kb_lt hk _ h0) (kb_lt hk _ h0)
  · rw [ly2, if_neg c]
    exact h
theorem WL_lyr (hk : kb = bN) (hD : WfD D) (h : WL D hm L) : WL D (lyr g kb D hm L n).1 (lyr g kb D hm L n).2.1 := by
  by_cases c : D 1 < 2
  · rw [lyr, if_pos c]
    exact h
  · rw [lyr, if_neg c]
    exact WL_ly2 hk hD (WL_ly1 hD h (kb_lt hk _ (by omega)) (kb_lt hk _ (by omega))) (by omega)
theorem ly2_lt (hg : g = rN) (F : Nat) : (ly2 g kb F hm L n).2.2 < 2147483648 := by
  by_cases c : kb (g n) 10 = 0
  · rw [ly2, if_pos c]
    exact g_lt hg _
  · rw [ly2, if_neg c]
    exact g_lt hg _
theorem lyr_lt (hg : g = rN) (h : n < 2147483648) : (lyr g kb D hm L n).2.2 < 2147483648 := by
  by_cases c : D 1 < 2
  · rw [lyr, if_pos c]
    exact h
  · rw [lyr, if_neg c]
    exact ly2_lt hg _
end LYR
section YEARS
variable {G : q_G} {d : Nat} {σ : q_S} {Q : Option Value → q_S → Prop} {t v u b b' f e n : Nat} {D hm : Nat → Nat} {P : Nat → List Int32} {L : Nat → Int32} {c : Int32} {g : Nat → Nat} {kb : Nat → Nat → Nat}
theorem Di_below_g {m : Nat} (hg : g = rN) (hk : kb = bN) (hs : q_Sh σ) (hn : q_L σ 12 1 = lN n) (hl : n < 2147483648) (h0 : 0 < m) (hm : m < 2 ^ 31) (hq : Q (some (.int (nI (kb (g n) m)))) (q_setL σ 12 1 (lN (g n)))) : q_Call G d 0 0 X_Di_below [.ref 12, .int (nI m)] σ Q := by
  subst hg hk
  exact Di_below_ok hs hn hl h0 hm hq
theorem M_below_g {m : Nat} (hg : g = rN) (hk : kb = bN) (hs : q_Sh σ) (hn : q_L σ 159 28 = lN n) (hl : n < 2147483648) (h0 : 0 < m) (hm : m < 2 ^ 31) (hq : Q (some (.int (nI (kb (g n) m)))) (q_setL σ 159 28 (lN (g n)))) : q_Call G d 0 0 X_M_drawBelow [.ref 159, .int (nI m)] σ Q := by
  subst hg hk
  exact M_below_ok hs hn hl h0 hm hq
theorem Li_years_ok (hg : g = rN) (hkb : kb = bN) (ht : q_isTw t) (hv : q_isLi v) (hs : q_Sh σ) (hD : WfD D) (hT : CT0 σ t D P) (hL : CL σ v L) (hw : WL D hm L) (hn : q_L σ 12 1 = lN n) (hl : n < 2147483648) (hq : ∀ σ', Fr (SLi v) L12 σ σ' → CL σ' v (lyr g kb D hm L n).2.1 → q_L σ' 12 1 = lN (lyr g kb D hm L n).2.2 → Q none σ') : q_Call G (d + 4) 0 0 X_Li_liveOn [.ref v, .ref t, .ref 12] σ Q := by
  have h6 := hD.F6
  have ho := isLi_out hv
  refine q_cv0 (P := fun σ' => Fr (SLi v) L12 σ σ' ∧ CL σ' v (lyr g kb D hm L n).2.1 ∧ q_L σ' 12 1 = lN (lyr g kb D hm L n).2.2) (by decide +kernel) (Nat.le_of_ble_eq_true rfl) (fun Q hq => ?_) (fun σ' h => hq σ' h.1 h.2.1 h.2.2)
  have kT : ∀ σ1, Fr (SLi v) L12 σ σ1 → CT0 σ1 t D P := fun σ1 fr => hT.fr ht fr (fun a i h => by unfold SLi at h; unfold fT; omega) (fun a i h => by unfold L12 at h; unfold fT; omega)
  have eF := hT.1.2.1
  refine v_Li_liveOn_0 hv ht hs ⟨fun c => ?_, fun c => ?_⟩
  · rw [eF] at c ⊢
    have h2 : 2 ≤ D 1 := by
      refine Nat.le_of_not_lt (fun h => ?_)
      exact ge_not (a := D 1) (b := 2) c h (by omega)
    rw [lyr, if_neg (by omega)] at hq
    have tail : ∀ (σ1 : q_S) (L1 : Nat → Int32), Fr (SLi v) L12 σ σ1 → CL σ1 v L1 → q_L σ1 12 1 = lN (g (g n)) → L1 = ly1 D hm L (kb (g n) (D 1)) (kb (g (g n)) (D 1)) → q_Call G (d + 3) 0 0 X_Di_below [.ref 12, .int 10] σ1 (q_ri (fun x16 σ14 => ((¬ x16 = 0 → Q none σ14) ∧ (x16 = 0 → q_Call G (d + 3) 0 0 X_Di_below [.ref 12, .int (nI (D 1))] σ14 (q_ri (fun x23 σ21 => q_Call G (d + 3) 0 0 X_Di_below [.ref 12, .int (nI (D 1))] σ21 (q_ri (fun x27 σ25 => q_Call G (d + 3) 0 0 X_Li_changeHouses [.ref v, .int x23, .int x27] σ25 (q_rv (fun σ29 => Q none σ29)))))))))) := by
      intro σ1 L1 fr g1 g2 e1
      rw [← e1] at hq
      have b10 := kb_lt hkb (g (g (g n))) (m := 10) (by decide)
      have f3 : Fr (SLi v) L12 σ (q_setL σ1 12 1 (lN (g (g (g n))))) := fr.tr (Fr.setL ⟨rfl, rfl⟩)
      refine Di_below_g (m := 10) hg hkb (fr.sh hs) g2 (g_lt hg _) (by decide) (by decide) ⟨fr.sh hs, _, rfl, fun c => ?_, fun c => ?_⟩
      · rw [← nI_0, nI_eq (by omega) (by omega)] at c
        refine hq _ ⟨f3, ?_, ?_⟩
        · rw [ly2, if_neg c]; exact g1
        · rw [ly2, if_neg c]; exact q_L_eq
      · rw [← nI_0, nI_eq (by omega) (by omega)] at c
        refine Di_below_g hg hkb (f3.sh hs) q_L_eq (g_lt hg _) (by omega) (by omega) ⟨f3.sh hs, _, rfl, ?_⟩
        have f4 := f3.tr (Fr.setL (a := 12) (i := 1) (v := lN (g (g (g (g n))))) (SI := SLi v) ⟨rfl, rfl⟩)
        refine Di_below_g hg hkb (f4.sh hs) q_L_eq (g_lt hg _) (by omega) (by omega) ⟨f4.sh hs, _, rfl, ?_⟩
        have f5 := f4.tr (Fr.setL (a := 12) (i := 1) (v := lN (g (g (g (g (g n)))))) (SI := SLi v) ⟨rfl, rfl⟩)
        have x1 := kb_lt hkb (g (g (g (g n)))) (m := D 1) (by omega)
        have x2 := kb_lt hkb (g (g (g (g (g n))))) (m := D 1) (by omega)
        refine Li_swap_ok hv (f5.sh hs) (L := L1) g1 (by omega) (by omega) (fun σ6 f6 g6 => ⟨f6.sh (f5.sh hs), rfl, hq σ6 ⟨f5.tr (f6.mono (fun _ _ h => h) (fun _ _ h => h.elim)), ?_, ?_⟩⟩)
        · rw [ly2, if_pos c]; exact g6
        · rw [ly2, if_pos c, f6.2.2.2 _ _ (fun z => z)]; exact q_L_eq
    have y1 := kb_lt hkb (g n) (m := D 1) (by omega)
    have y2 := kb_lt hkb (g (g n)) (m := D 1) (by omega)
    refine Di_below_g hg hkb hs hn hl (by omega) (by omega) ⟨hs, _, rfl, ?_⟩
    have f1 : Fr (SLi v) L12 σ (q_setL σ 12 1 (lN (g n))) := Fr.setL ⟨rfl, rfl⟩
    refine Di_below_g hg hkb (f1.sh hs) q_L_eq (g_lt hg _) (by omega) (by omega) ⟨f1.sh hs, _, rfl, ?_⟩
    have f2 : Fr (SLi v) L12 σ (q_setL (q_setL σ 12 1 (lN (g n))) 12 1 (lN (g (g n)))) := f1.tr (Fr.setL ⟨rfl, rfl⟩)
    refine ⟨fun c1 => ?_, fun c1 => ?_⟩
    · rw [nI_eq (by omega) (by omega)] at c1
      refine tail _ L f2 hL q_L_eq ?_
      rw [ly1, if_pos (thk_self' hD hw.1 y1 c1), ite_self]
    · refine Li_canLend_ok (d := d) ht hv (f2.sh hs) hD (kT _ f2) hL hw.1 y1 y2 ⟨f2.sh hs, _, rfl, fun c2 => ?_, fun c2 => ?_⟩
      · refine tail _ L f2 hL q_L_eq ?_
        rw [ly1]
        by_cases q1 : L (6 + kb (g n) (D 1)) < 1
        · rw [if_pos q1]
        · rw [if_neg q1, if01] at c2
          rw [if_neg q1, if_pos c2]
      · refine Li_lend_ok hv (f2.sh hs) (L := L) hL (by omega) (by omega) (fun σ6 f6 g6 => ⟨f6.sh (f2.sh hs), rfl, ?_⟩)
        refine tail σ6 _ (f2.tr (f6.mono (fun _ _ h => h) (fun _ _ h => h.elim))) g6 (by rw [f6.2.2.2 _ _ (fun z => z)]; exact q_L_eq) ?_
        rw [ly1]
        by_cases q1 : L (6 + kb (g n) (D 1)) < 1
        · rw [if_pos q1] at c2; exact absurd rfl c2
        · rw [if_neg q1, if01] at c2
          rw [if_neg q1, if_neg c2]
  · rw [eF] at c
    have h2 : D 1 < 2 := Nat.lt_of_not_le (fun h => c (nI_le (a := 2) h (by omega)))
    rw [lyr, if_pos h2] at hq
    exact hq σ ⟨Fr.rf, hL, hn⟩
end YEARS
