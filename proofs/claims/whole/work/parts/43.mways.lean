-- the reference's ways
def MWs (σ : q_S) (D : Nat → Nat) (ws : List (Nat → Nat)) : Prop := q_I σ 159 31 = nI ws.length ∧ ∀ k w, ws[k]? = some w → ∀ f, f < D 1 → q_I σ 179 (6 * k + f) = nI (w f)
def SMl (f : Nat) : Nat → Nat → Prop := fun a i => a = 179 ∨ (a = 159 ∧ i = 31) ∨ (a = 175 ∧ 1804 + f ≤ i ∧ i < 1810)
def SMo : Nat → Nat → Prop := fun a i => a = 175 ∧ 1804 ≤ i ∧ i < 1810
section MWAYS
variable {G : q_G} {d : Nat} {D hm : Nat → Nat} {P : Nat → List Int32}
theorem MT0.ml {σ σ' : q_S} {f : Nat} (h : MT0 σ D P) (hf : Fr (SMl f) noL σ σ') : MT0 σ' D P := h.fr hf (fun a i z => by unfold SMl at z; omega)
theorem M_lives_ok (hD : WfD D) : ∀ (r f m : Nat) (w : Nat → Nat) (σ : q_S) (ws : List (Nat → Nat)) (Q : Option Value → q_S → Prop), f + r = D 1 → m < 64 → q_Sh σ → MT0 σ D P → MWs σ D ws → (∀ j, j < f → q_I σ 175 (1804 + j) = nI (w j) ∧ w j < D 0) → ws.length + (gw (D 0) r f m w).length ≤ 720 → (∀ σ', Fr (SMl f) noL σ σ' → MWs σ' D (ws ++ gw (D 0) r f m w) → Q none σ') → q_Call G (d + 1 + r) 0 0 X_M_lives [.ref 159, .int (nI f), .int (nI m)] σ Q
  | 0, f, m, w, σ, ws, Q, hf, hm, hs, hT, hW, hh, hl, hq => by
    have h6 := hD.F6
    have hf : f = D 1 := by omega
    subst hf
    have hl2 : ws.length < 720 := by
      have : (gw (D 0) 0 (D 1) m w).length = 1 := rfl
      omega
    refine q_cv0 (P := fun σ' => Fr (SMl (D 1)) noL σ σ' ∧ MWs σ' D (ws ++ gw (D 0) 0 (D 1) m w)) (by decide +kernel) (Nat.le_of_ble_eq_true rfl) (fun Q hq => ?_) (fun σ' h => hq σ' h.1 h.2)
    refine v_M_lives_0 hs ⟨fun c => absurd hT.F.symm c, fun _ => ?_⟩
    refine up_ind (R := fun k => ∀ σ1, Fr (SMl (D 1)) noL σ σ1 → (∀ i, q_I σ1 175 i = q_I σ 175 i) → q_I σ1 159 31 = nI ws.length → (∀ i, i < 6 * ws.length → q_I σ1 179 i = q_I σ 179 i) → (∀ j, j < k → q_I σ1 179 (6 * ws.length + j) = nI (w j)) → q_At G X_M_lives (d + 1 + 0) 0 0 10 [some (.ref 159), some (.int (nI (D 1))), some (.int (nI m)), some (.int (nI k))] [] σ1 Q) (n := D 1) (fun σ1 fr g1 g2 g3 g4 => ?_) (fun k hk ih σ1 fr g1 g2 g3 g4 => ?_) 0 (Nat.zero_le _) σ Fr.rf (fun _ => rfl) hW.1 (fun _ _ => rfl) (fun j hj => absurd hj (Nat.not_lt_zero j))
    · refine v_M_lives_10 (fr.sh hs) ⟨fun _ => hq _ ⟨fr.tr (Fr.setI (Or.inr (Or.inl ⟨rfl, rfl⟩))), ?_, fun k v hk f hf => ?_⟩, fun c => absurd (Int32.le_refl _) c⟩
      · rw [q_I_eq, g2, nI_1, List.length_append]; rfl
      · rw [q_I_ne (by omega)]
        by_cases c : k < ws.length
        · rw [gw, List.getElem?_append_left c] at hk
          rw [g3 _ (by omega)]
          exact hW.2 k v hk f hf
        · have hk2 : k = ws.length := by
            have := (List.getElem?_eq_some_iff.mp hk).1
            rw [List.length_append] at this
            have e : (gw (D 0) 0 (D 1) m w).length = 1 := rfl
            omega
          subst hk2
          rw [gw, List.getElem?_append_right (Nat.le_refl _), Nat.sub_self] at hk
          have hv : w = v := Option.some.inj hk
          subst hv
          exact g4 f hf
    · refine v_M_lives_10 (fr.sh hs) ⟨fun c => ge_not c hk (by omega), fun _ => ⟨1804 + k, nI_add 1804 k, by omega, 6 * ws.length + k, by rw [g2, q_lit 6, pk_mul, nI_add], by omega, ?_⟩⟩
      rw [nI_1]
      refine ih _ (fr.tr (Fr.setI (Or.inl rfl))) (fun i => by rw [q_I_ne (by omega)]; exact g1 i) (by rw [q_I_ne (by omega)]; exact g2) (fun i hi => by rw [q_I_ne (by omega)]; exact g3 i hi) (fun j hj => ?_)
      by_cases cj : j = k
      · subst cj
        rw [q_I_eq, g1]
        exact (hh j hk).1
      · rw [q_I_ne (by omega)]; exact g4 j (by omega)
  | r + 1, f, m, w, σ, ws, Q, hf, hm, hs, hT, hW, hh, hl, hq => by
    have h6 := hD.F6
    have hH := hD.2.1
    refine q_cv0 (P := fun σ' => Fr (SMl f) noL σ σ' ∧ MWs σ' D (ws ++ gw (D 0) (r + 1) f m w)) (by decide +kernel) (Nat.le_of_ble_eq_true rfl) (fun Q hq => ?_) (fun σ' h => hq σ' h.1 h.2)
    rw [gw] at hl hq
    refine v_M_lives_0 hs ⟨fun _ => ?_, fun c => by rw [hT.F, nI_eq (by omega) (by omega)] at c; omega⟩
    refine up_ind (R := fun h => ∀ σ1, Fr (SMl f) noL σ σ1 → MWs σ1 D (ws ++ (List.range h).flatMap (fun h => if m.testBit h then [] else gw (D 0) r (f + 1) (m ||| 2 ^ h) (updN w f h))) → q_At G X_M_lives (d + 1 + (r + 1)) 0 0 58 [some (.ref 159), some (.int (nI f)), some (.int (nI m)), some (.int (nI h))] [] σ1 Q) (n := D 0) (fun σ1 fr g1 => ?_) (fun h hh0 ih σ1 fr g1 => ?_) 0 (Nat.zero_le _) σ Fr.rf (by simpa using hW)
    · exact v_M_lives_58 (fr.sh hs) ⟨fun _ => hq σ1 ⟨fr, g1⟩, fun c => absurd (by rw [(hT.ml fr).H]; exact Int32.le_refl _) c⟩
    · rw [fm_succ] at ih
      refine v_M_lives_58 (fr.sh hs) ⟨fun c => by rw [(hT.ml fr).H] at c; exact ge_not c hh0 (by omega), fun _ => ⟨fun c => ?_, fun c => ?_⟩⟩
      · rw [mbit m hm h (by omega)] at c
        have c2 : m.testBit h = true := by simpa using c
        rw [if_pos c2, List.append_nil] at ih
        rw [nI_1]
        exact ih σ1 fr g1
      · rw [mbit m hm h (by omega)] at c
        have c2 : ¬ m.testBit h = true := by simp [c]
        rw [if_neg c2] at ih
        obtain ⟨e1, e2⟩ := mset m hm h (by omega)
        refine ⟨1804 + f, nI_add 1804 f, by omega, ?_⟩
        rw [nI_1, nI_1, e1]
        have f2 : Fr (SMl f) noL σ (q_setI σ1 175 (1804 + f) (nI h)) := fr.tr (Fr.setI (Or.inr (Or.inr ⟨rfl, by omega, by omega⟩)))
        have g2 : MWs (q_setI σ1 175 (1804 + f) (nI h)) D (ws ++ (List.range h).flatMap (fun h => if m.testBit h then [] else gw (D 0) r (f + 1) (m ||| 2 ^ h) (updN w f h))) := by
          refine ⟨?_, fun k v hk j hj => ?_⟩
          · rw [q_I_ne (by omega)]; exact g1.1
          · rw [q_I_ne (by omega)]; exact g1.2 k v hk j hj
        refine M_lives_ok hD r (f + 1) (m ||| 2 ^ h) (updN w f h) _ _ _ (by omega) e2 (f2.sh hs) (hT.ml f2) g2 (fun j hj => ?_) ?_ (fun σ' f3 g3 => ⟨f3.sh (f2.sh hs), rfl, ?_⟩)
        · unfold updN
          by_cases cj : j = f
          · subst cj
            rw [q_I_eq, if_pos rfl]
            exact ⟨rfl, hh0⟩
          · rw [q_I_ne (by omega), if_neg cj, fr.2.2.1 _ _ (fun z => by unfold SMl at z; omega)]
            exact hh j (by omega)
        · have h1 := fm_mono (g := fun h => if m.testBit h then [] else gw (D 0) r (f + 1) (m ||| 2 ^ h) (updN w f h)) (h := h + 1) (D 0) (by omega)
          rw [fm_succ, List.length_append, if_neg c2] at h1
          rw [List.length_append]
          omega
        · rw [List.append_assoc] at g3
          exact ih σ' (f2.tr (f3.mono (fun a i z => by unfold SMl at z ⊢; omega) (fun _ _ z => z))) g3
theorem M_findWays_ok {σ : q_S} {Q : Option Value → q_S → Prop} (hs : q_Sh σ) (hD : WfD D) (hT : MT0 σ D P) (hq : ∀ σ', Fr (SMl 0) noL σ σ' → MWs σ' D (wys D) → Q none σ') : q_Call G (d + 8) 0 0 X_M_findWays [.ref 159] σ Q := by
  have h6 := hD.F6
  refine q_cv0 (P := fun σ' => Fr (SMl 0) noL σ σ' ∧ MWs σ' D (wys D)) (by decide +kernel) (Nat.le_of_ble_eq_true rfl) (fun Q hq => ?_) (fun σ' h => hq σ' h.1 h.2)
  refine v_M_findWays_0 hs ?_
  have f1 : Fr (SMl 0) noL σ (q_setI σ 159 31 0) := Fr.setI (Or.inr (Or.inl ⟨rfl, rfl⟩))
  have : q_Call G (d + (6 - D 1) + 1 + D 1) 0 0 X_M_lives [.ref 159, .int (nI 0), .int (nI 0)] (q_setI σ 159 31 0) (q_rv (fun σ2 => Q none σ2)) := by
    refine M_lives_ok (d := d + (6 - D 1)) hD (D 1) 0 0 (fun _ => 0) _ [] _ (by omega) (by decide) (f1.sh hs) (hT.ml f1) ⟨q_I_eq, fun k w hk => ?_⟩ (fun j hj => absurd hj (Nat.not_lt_zero j)) ?_ (fun σ' f2 k2 => ⟨f2.sh (f1.sh hs), rfl, hq σ' ⟨f1.tr f2, k2⟩⟩)
    · exact absurd hk (by simp)
    · rw [List.length_nil, Nat.zero_add]; exact (wys_len hD).1
  rw [show d + (6 - D 1) + 1 + D 1 = d + 7 by omega] at this
  exact this
theorem M_laysWay_ok {σ : q_S} {Q : Option Value → q_S → Prop} {k : Nat} {w : Nat → Nat} (hs : q_Sh σ) (hD : WfD D) (hT : MT0 σ D P) (hW : MWs σ D (wys D)) (hk : (wys D)[k]? = some w) (hq : ∀ σ', Fr SMo noL σ σ' → HB σ' 1804 D w → Q none σ') : q_Call G (d + 1) 0 0 X_M_laysWay [.ref 159, .int (nI k)] σ Q := by
  have h6 := hD.F6
  have hw := (wys_ok (List.mem_of_getElem? hk)).1
  have hk7 : k < 720 := Nat.lt_of_lt_of_le (List.getElem?_eq_some_iff.mp hk).1 (wys_len hD).1
  refine q_cv0 (P := fun σ' => Fr SMo noL σ σ' ∧ HB σ' 1804 D w) (by decide +kernel) (Nat.le_of_ble_eq_true rfl) (fun Q hq => ?_) (fun σ' h => hq σ' h.1 h.2)
  refine v_M_laysWay_0 hs ?_
  refine up_ind (R := fun f => ∀ σ1, Fr SMo noL σ σ1 → (∀ j, j < f → q_I σ1 175 (1804 + j) = nI (w j)) → q_At G X_M_laysWay (d + 1) 0 0 2 [some (.ref 159), some (.int (nI k)), some (.int (nI f))] [] σ1 Q) (n := D 1) (fun σ1 fr g1 => ?_) (fun f hf ih σ1 fr g1 => ?_) 0 (Nat.zero_le _) σ Fr.rf (fun j hj => absurd hj (Nat.not_lt_zero j))
  · exact v_M_laysWay_2 (fr.sh hs) ⟨fun _ => hq σ1 ⟨fr, fun f hf => ⟨g1 f hf, hw f hf⟩⟩, fun c => absurd (by rw [(hT.fr fr (fun a i z => by unfold SMo at z; omega)).F]; exact Int32.le_refl _) c⟩
  · refine v_M_laysWay_2 (fr.sh hs) ⟨fun c => by rw [(hT.fr fr (fun a i z => by unfold SMo at z; omega)).F] at c; exact ge_not c hf (by omega), fun _ => ⟨6 * k + f, by rw [q_lit 6, pk_mul, nI_add], by omega, 1804 + f, nI_add 1804 f, by omega, ?_⟩⟩
    rw [nI_1, fr.2.2.1 179 _ (fun z => by unfold SMo at z; omega), hW.2 k w hk f hf]
    refine ih _ (fr.tr (Fr.setI ⟨rfl, by omega, by omega⟩)) (fun j hj => ?_)
    by_cases cj : j = f
    · subst cj; exact q_I_eq
    · rw [q_I_ne (by omega)]; exact g1 j (by omega)
end MWAYS
