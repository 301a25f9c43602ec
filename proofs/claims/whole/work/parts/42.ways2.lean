theorem fm_mono {α : Type} {g : Nat → List α} {h : Nat} : ∀ H, h ≤ H → ((List.range h).flatMap g).length ≤ ((List.range H).flatMap g).length
  | 0, hh => by rw [Nat.le_zero.mp hh]; exact Nat.le_refl _
  | H + 1, hh => by
    by_cases c : h = H + 1
    · subst c; exact Nat.le_refl _
    · rw [List.range_succ, List.flatMap_append, List.length_append]
      exact Nat.le_trans (fm_mono H (by omega)) (Nat.le_add_right _ _)
theorem fm_succ {α : Type} {g : Nat → List α} (h : Nat) : (List.range (h + 1)).flatMap g = (List.range h).flatMap g ++ g h := by
  rw [List.range_succ, List.flatMap_append]
  simp
section WAYS2
variable {G : q_G} {d : Nat} {t : Nat} {D hm : Nat → Nat} {P : Nat → List Int32}
theorem Wy_settle_ok (ht : q_isTw t) (hD : WfD D) (hP : WfP P) : ∀ (r f m : Nat) (w : Nat → Nat) (σ : q_S) (ws : List (Nat → Nat)) (Q : Option Value → q_S → Prop), f + r = D 1 → m < 64 → q_Sh σ → CT σ t D P → WyD σ D P ws → (∀ j, j < f → q_I σ 11 j = nI (w j) ∧ w j < D 0) → ws.length + (gw (D 0) r f m w).length ≤ 720 → (∀ σ', Fr (SWy f) SLy σ σ' → WyD σ' D P (ws ++ gw (D 0) r f m w) → Q none σ') → q_Call G (d + 5 + r) 0 0 X_Wy_settle [.ref 5, .ref t, .int (nI f), .int (nI m)] σ Q
  | 0, f, m, w, σ, ws, Q, hf, hm, hs, hT, hW, hh, hl, hq => by
    have hf : f = D 1 := by omega
    subst hf
    refine q_cv0 (P := fun σ' => Fr (SWy (D 1)) SLy σ σ' ∧ WyD σ' D P (ws ++ gw (D 0) 0 (D 1) m w)) (by decide +kernel) (Nat.le_of_ble_eq_true rfl) (fun Q hq => ?_) (fun σ' h => hq σ' h.1 h.2)
    refine v_Wy_settle_0 ht hs ⟨fun _ => ?_, fun c => absurd (by rw [hW.1]; exact Int32.le_refl _) c⟩
    have hl2 : ws.length < 720 := by
      have : (gw (D 0) 0 (D 1) m w).length = 1 := rfl
      omega
    exact Wy_note_ok (d := d) ht hs hD hP hT hW hh hl2 (fun σ' f1 g1 => ⟨f1.sh hs, rfl, hq σ' ⟨f1, g1⟩⟩)
  | r + 1, f, m, w, σ, ws, Q, hf, hm, hs, hT, hW, hh, hl, hq => by
    have h6 := hD.F6
    have hH := hD.2.1
    refine q_cv0 (P := fun σ' => Fr (SWy f) SLy σ σ' ∧ WyD σ' D P (ws ++ gw (D 0) (r + 1) f m w)) (by decide +kernel) (Nat.le_of_ble_eq_true rfl) (fun Q hq => ?_) (fun σ' h => hq σ' h.1 h.2)
    rw [gw] at hl hq
    refine v_Wy_settle_0 ht hs ⟨fun c => by rw [hW.1] at c; exact ge_not c (by omega) (by omega), fun _ => ⟨fun _ => ?_, fun c => absurd (nI_lt (b := 6) (by omega) (by decide)) c⟩⟩
    refine up_ind (R := fun h => ∀ σ1, Fr (SWy f) SLy σ σ1 → WyD σ1 D P (ws ++ (List.range h).flatMap (fun h => if m.testBit h then [] else gw (D 0) r (f + 1) (m ||| 2 ^ h) (updN w f h))) → q_At G X_Wy_settle (d + 5 + (r + 1)) 0 0 23 [some (.ref 5), some (.ref t), some (.int (nI f)), some (.int (nI m)), some (.int (nI h))] [] σ1 Q) (n := D 0) (fun σ1 fr g1 => ?_) (fun h hh0 ih σ1 fr g1 => ?_) 0 (Nat.zero_le _) σ Fr.rf (by simpa using hW)
    · exact v_Wy_settle_23 ht (fr.sh hs) ⟨fun _ => hq σ1 ⟨fr, g1⟩, fun c => absurd (by rw [(hT.wy ht fr).1.1.1]; exact Int32.le_refl _) c⟩
    · rw [fm_succ] at ih
      refine v_Wy_settle_23 ht (fr.sh hs) ⟨fun c => by rw [(hT.wy ht fr).1.1.1] at c; exact ge_not c hh0 (by omega), fun _ => ⟨fun c => ?_, fun c => ?_⟩⟩
      · rw [mbit m hm h (by omega)] at c
        have c2 : m.testBit h = true := by simpa using c
        rw [if_pos c2, List.append_nil] at ih
        rw [nI_1]
        exact ih σ1 fr g1
      · rw [mbit m hm h (by omega)] at c
        have c2 : ¬ m.testBit h = true := by simp [c]
        rw [if_neg c2] at ih
        obtain ⟨e1, e2⟩ := mset m hm h (by omega)
        refine ⟨f, rfl, by omega, ?_⟩
        rw [nI_1, nI_1, e1]
        have f2 : Fr (SWy f) SLy σ (q_setI σ1 11 f (nI h)) := fr.tr (Fr.setI (Or.inr (Or.inr (Or.inr (Or.inr (Or.inr ⟨rfl, Nat.le_refl _⟩))))))
        have g2 : WyD (q_setI σ1 11 f (nI h)) D P (ws ++ (List.range h).flatMap (fun h => if m.testBit h then [] else gw (D 0) r (f + 1) (m ||| 2 ^ h) (updN w f h))) := by
          refine ⟨?_, ?_, fun k v hk => ?_, fun j hj => ?_⟩
          · rw [q_I_ne (by omega)]; exact g1.1
          · rw [q_I_ne (by omega)]; exact g1.2.1
          · rw [q_I_ne (by omega), q_L_setI, q_L_setI, q_I_ne (by omega)]; exact g1.2.2.1 k v hk
          · rw [q_I_ne (by omega)]; exact g1.2.2.2 j hj
        refine Wy_settle_ok ht hD hP r (f + 1) (m ||| 2 ^ h) (updN w f h) _ _ _ (by omega) e2 (f2.sh hs) (hT.wy ht f2) g2 (fun j hj => ?_) ?_ (fun σ' f3 g3 => ⟨f3.sh (f2.sh hs), rfl, ?_⟩)
        · unfold updN
          by_cases cj : j = f
          · subst cj
            rw [q_I_eq, if_pos rfl]
            exact ⟨rfl, hh0⟩
          · rw [q_I_ne (by omega), if_neg cj, fr.2.2.1 _ _ (fun z => by unfold SWy Sc at z; omega)]
            exact hh j (by omega)
        · have h1 := fm_mono (g := fun h => if m.testBit h then [] else gw (D 0) r (f + 1) (m ||| 2 ^ h) (updN w f h)) (h := h + 1) (D 0) (by omega)
          rw [fm_succ, List.length_append, if_neg c2] at h1
          rw [List.length_append]
          omega
        · rw [List.append_assoc] at g3
          exact ih σ' (f2.tr (f3.mono (fun a i z => by
            rcases z with z | z | z | z | z | z
            · exact Or.inl z
            · exact Or.inr (Or.inl z)
            · exact Or.inr (Or.inr (Or.inl z))
            · exact Or.inr (Or.inr (Or.inr (Or.inl z)))
            · exact Or.inr (Or.inr (Or.inr (Or.inr (Or.inl z))))
            · exact Or.inr (Or.inr (Or.inr (Or.inr (Or.inr ⟨z.1, by omega⟩))))) (fun _ _ z => z))) g3
def WK (σ : q_S) (D : Nat → Nat) (P : Nat → List Int32) : Prop := q_I σ 5 8 = 0 ∨ (q_I σ 5 8 = 1 ∧ WyD σ D P (wys D))
def SLn : Nat → Nat → Prop := fun a i => Sc a i ∨ a = 6 ∨ a = 9 ∨ a = 10 ∨ a = 11 ∨ (a = 5 ∧ 6 ≤ i)
theorem SLn_in {a i : Nat} (h : SLn a i) : Sc a i ∨ (5 ≤ a ∧ a ≤ 11) := by
  rcases h with h | h
  · exact Or.inl h
  · exact Or.inr (by omega)
theorem CT.ln {σ σ' : q_S} (ht : q_isTw t) (h : CT σ t D P) (hf : Fr SLn SLy σ σ') : CT σ' t D P := h.keep (fun a i hc => hf.2.2.1 a i (fun z => by
    rcases SLn_in z with z | z
    · exact TC_Sc ht hc z
    · exact TC_in ht hc (by unfold fT; omega))) (fun i => hf.2.2.2 _ i (fun z => by have := isTw_cases ht; unfold SLy at z; omega))
theorem Wy_learn_ok {σ : q_S} {Q : Option Value → q_S → Prop} (ht : q_isTw t) (hs : q_Sh σ) (hD : WfD D) (hP : WfP P) (hT : CT σ t D P) (hK : WK σ D P) (hq : ∀ σ', Fr SLn SLy σ σ' → q_I σ' 5 8 = 1 → WyD σ' D P (wys D) → Q none σ') : q_Call G (d + 12) 0 0 X_Wy_learn [.ref 5, .ref t] σ Q := by
  have h6 := hD.F6
  refine q_cv0 (P := fun σ' => Fr SLn SLy σ σ' ∧ q_I σ' 5 8 = 1 ∧ WyD σ' D P (wys D)) (by decide +kernel) (Nat.le_of_ble_eq_true rfl) (fun Q hq => ?_) (fun σ' h => hq σ' h.1 h.2.1 h.2.2)
  refine v_Wy_learn_0 ht hs ⟨fun _ => ?_, fun c => ?_⟩
  · have f5 : ∀ {σ : q_S} {i : Nat} {v : Int32}, 6 ≤ i → Fr SLn SLy σ (q_setI σ 5 i v) := fun hi => Fr.setI (Or.inr (Or.inr (Or.inr (Or.inr (Or.inr ⟨rfl, hi⟩)))))
    have e0 : q_I (q_setI (q_setI σ 5 8 1) 5 7 0) t 14 = nI (D 1) := by
      have := isTw_cases ht
      rw [q_I_ne (by omega), q_I_ne (by omega)]
      exact hT.1.1.2.1
    rw [e0]
    refine up_ind (R := fun k => ∀ σ1, Fr SLn SLy σ σ1 → q_I σ1 5 8 = 1 → q_I σ1 5 7 = 0 → q_I σ1 5 6 = nI (D 1) → (∀ j, j < k → q_I σ1 10 j = 0) → q_At G X_Wy_learn (d + 12) 0 0 28 [some (.ref 5), some (.ref t), some (.int (nI k))] [] σ1 Q) (n := 6) (fun σ1 fr g1 g2 g3 g4 => ?_) (fun k hk ih σ1 fr g1 g2 g3 g4 => ?_) 0 (Nat.zero_le _) _ (Fr.tr (Fr.tr (f5 (by decide)) (f5 (by decide))) (f5 (by decide))) (by rw [q_I_ne (by omega), q_I_ne (by omega), q_I_eq]) (by rw [q_I_ne (by omega), q_I_eq]) q_I_eq (fun j hj => absurd hj (Nat.not_lt_zero j))
    · refine v_Wy_learn_28 (fr.sh hs) ⟨fun _ => ?_, fun c => absurd (by decide) c⟩
      have hL := wys_len hD
      have : q_Call G (d + (6 - D 1) + 5 + D 1) 0 0 X_Wy_settle [.ref 5, .ref t, .int (nI 0), .int (nI 0)] σ1 (q_rv (fun σ4 => Q none σ4)) := by
        refine Wy_settle_ok (d := d + (6 - D 1)) ht hD hP (D 1) 0 0 (fun _ => 0) σ1 [] _ (by omega) (by decide) (fr.sh hs) (hT.ln ht fr) ⟨g3, g2, fun k w hk => ?_, fun j hj => g4 j (by omega)⟩ (fun j hj => absurd hj (Nat.not_lt_zero j)) ?_ (fun σ' f2 k2 => ⟨f2.sh (fr.sh hs), rfl, hq σ' ⟨fr.tr (f2.mono (fun a i z => ?_) (fun _ _ z => z)), ?_, k2⟩⟩)
        · exact absurd hk (by simp)
        · rw [List.length_nil, Nat.zero_add]; exact hL.1
        · rcases z with z | z
          · exact Or.inl z
          · exact Or.inr (by omega)
        · rw [f2.2.2.1 _ _ (fun z => by unfold SWy Sc at z; omega)]; exact g1
      rw [show d + (6 - D 1) + 5 + D 1 = d + 11 by omega] at this
      exact this
    · refine v_Wy_learn_28 (fr.sh hs) ⟨fun c => ge_not (b := 6) c hk (by decide), fun _ => ⟨k, rfl, hk, ?_⟩⟩
      rw [nI_1]
      refine ih _ (fr.tr (Fr.setI (Or.inr (Or.inr (Or.inr (Or.inl rfl)))))) (by rw [q_I_ne (by omega)]; exact g1) (by rw [q_I_ne (by omega)]; exact g2) (by rw [q_I_ne (by omega)]; exact g3) (fun j hj => ?_)
      by_cases cj : j = k
      · subst cj; exact q_I_eq
      · rw [q_I_ne (by omega)]; exact g4 j (by omega)
  · rcases hK with h | ⟨h1, h2⟩
    · exact absurd h c
    · exact hq σ ⟨Fr.rf, h1, h2⟩
end WAYS2
