section MSWAPS
variable {G : q_G} {d : Nat} {σ : q_S} {Q : Option Value → q_S → Prop} {b f k : Nat} {D hm w : Nat → Nat} {P : Nat → List Int32} {ws : List (Nat → Nat)}
theorem M_who_ok {x : Int32} (hs : q_Sh σ) (hD : WfD D) (hT : MT0 σ D P) (hB : HB σ b D hm) (hb : b + 6 ≤ 1886) (hq : Q (some (.int (who hm x (D 1)))) σ) : q_Call G (d + 1) 0 0 X_M_whoLives [.ref 159, .int (nI b), .int x] σ Q := by
  have h6 := hD.F6
  refine q_ci (by decide +kernel) (Nat.le_of_ble_eq_true rfl) (fun Q hq => ?_) hq
  refine v_M_whoLives_0 hs ?_
  refine up_ind (R := fun k => q_At G X_M_whoLives (d + 1) 0 0 5 [some (.ref 159), some (.int (nI b)), some (.int x), some (.int (who hm x k)), some (.int (nI k))] [] σ Q) (n := D 1) ?_ (fun k hk ih => ?_) 0 (Nat.zero_le _)
  · exact v_M_whoLives_5 hs ⟨fun _ => hq, fun c => absurd (by rw [hT.F]; exact Int32.le_refl _) c⟩
  · refine v_M_whoLives_5 hs ⟨fun c => by rw [hT.F] at c; exact ge_not c hk (by omega), fun _ => ⟨b + k, by rw [Int32.add_zero, nI_add], by omega, ?_⟩⟩
    rw [(hB k hk).1, nI_1]
    rw [who] at ih
    exact ih
theorem M_swaps_ok (hs : q_Sh σ) (hD : WfD D) (hT : MT0 σ D P) (hB : HB σ 0 D hm) (hC : HB σ 1804 D w) (hi : Inj (D 1) w) (hq : Q (some (.int (nI (swc hm w (D 1) (D 1))))) σ) : q_Call G (d + 2) 0 0 X_M_swapsTo [.ref 159] σ Q := by
  have h6 := hD.F6
  have hH := hD.2.1
  refine q_ci (by decide +kernel) (Nat.le_of_ble_eq_true rfl) (fun Q hq => ?_) hq
  refine v_M_swapsTo_0 hs ?_
  have ez : ∀ k, 0 + nI k = nI k := fun k => by rw [Int32.zero_add]
  have eo : ∀ k, 1804 + nI k = nI (1804 + k) := fun k => nI_add 1804 k
  have hB0 : ∀ k, k < D 1 → q_I σ 175 k = nI (hm k) := fun k hk => by have := (hB k hk).1; rwa [Nat.zero_add] at this
  refine up_ind (R := fun j => q_At G X_M_swapsTo (d + 2) 0 0 4 [some (.ref 159), some (.int (nI (swc hm w (D 1) j))), some (.int (nI j)), none, none, none, none] [] σ Q) (n := D 1) ?_ (fun j hj ih => ?_) 0 (Nat.zero_le _)
  · exact v_M_swapsTo_4 hs ⟨fun _ => hq, fun c => absurd (by rw [hT.F]; exact Int32.le_refl _) c⟩
  · have a1 := (hC j hj).2
    have a2 := (hB j hj).2
    have e1 : (nI (w j) = nI (hm j)) ↔ w j = hm j := nI_eq (by omega) (by omega)
    refine v_M_swapsTo_4 hs ⟨fun c => by rw [hT.F] at c; exact ge_not c hj (by omega), fun _ => ⟨1804 + j, eo j, by omega, j, ez j, by omega, j, ez j, by omega, ?_⟩⟩
    rw [(hC j hj).1, hB0 j hj]
    simp only [e1]
    -- where the loop leaves off
    have fin : ∀ (l1 x : Int32) (l5 : Int32) (s : Nat), s ≤ 6 → (l5 = 0 ∨ s = 6) → (l1 - (if x = nI j then (if w j = hm j then (0 : Int32) else 1) else 0) = nI (swc hm w (D 1) (j + 1))) → q_At G X_M_swapsTo (d + 2) 0 0 68 [some (.ref 159), some (.int l1), some (.int (nI j)), some (.int (nI (w j))), some (.int x), some (.int l5), some (.int (nI s))] [] σ Q := by
      intro l1 x l5 s hs6 h5 he
      have two : (¬ x = nI j → q_At G X_M_swapsTo (d + 2) 0 0 4 [some (.ref 159), some (.int (l1 - 0)), some (.int (nI j + 1)), none, none, none, none] [] σ Q) ∧ (x = nI j → (∃ k7, 0 + nI j = nI k7 ∧ k7 < 1886 ∧ q_At G X_M_swapsTo (d + 2) 0 0 4 [some (.ref 159), some (.int (l1 - (if nI (w j) = q_I σ 175 k7 then (0 : Int32) else (1 : Int32)))), some (.int (nI j + 1)), none, none, none, none] [] σ Q)) := by
        rw [nI_1]
        refine ⟨fun c => ?_, fun c => ⟨j, ez j, by omega, ?_⟩⟩
        · rw [if_neg c] at he
          rw [he]
          exact ih
        · rw [if_pos c] at he
          rw [hB0 j hj]
          simp only [e1]
          rw [he]
          exact ih
      refine v_M_swapsTo_68 hs ⟨fun _ => two, fun c => ⟨fun _ => two, fun c2 => ?_⟩⟩
      rcases h5 with h5 | h5
      · exact absurd h5 c2
      · rw [h5] at c; exact absurd (by decide) c
    by_cases c : w j = hm j
    · rw [if_pos c]
      refine fin _ _ _ 0 (by decide) (Or.inl rfl) ?_
      rw [if_pos rfl, if_pos c, swc, if_pos c, Int32.sub_zero, Int32.add_zero, Nat.add_zero]
    · rw [if_neg c, nI_1]
      have cl : ∀ s k e, k + s = 6 → e < D 1 → (e = j → 0 < s) → rg hm w (D 1) j s e = rg hm w (D 1) j (D 1) j → q_At G X_M_swapsTo (d + 2) 0 0 68 [some (.ref 159), some (.int (nI (swc hm w (D 1) j + 1))), some (.int (nI j)), some (.int (nI (w j))), some (.int (nI e)), some (.int 1), some (.int (nI k))] [] σ Q := by
        intro s
        induction s with
        | zero =>
          intro k e hk he h0 hr
          have hk : k = 6 := by omega
          subst hk
          refine fin _ _ _ 6 (by decide) (Or.inr rfl) ?_
          have ne : e ≠ j := fun h => absurd (h0 h) (Nat.lt_irrefl 0)
          rw [if_neg (by rw [nI_eq (by omega) (by omega)]; exact ne), swc, if_neg c, ← hr, rg, Int32.sub_zero]
          rfl
        | succ s ih2 =>
          intro k e hk he h0 hr
          rw [rg] at hr
          refine v_M_swapsTo_68 hs ⟨fun c6 => ge_not (b := 6) c6 (by omega) (by decide), fun _ => ⟨fun c2 => absurd c2 (by decide), fun _ => ⟨1804 + e, eo e, by omega, ?_⟩⟩⟩
          rw [(hC e he).1]
          refine M_who_ok (b := 0) (d := d) hs hD hT hB (by decide) ⟨hs, _, rfl, ?_⟩
          dsimp only
          rw [nI_1]
          by_cases c3 : nI j < who hm (nI (w e)) (D 1)
          · rw [if_pos c3] at hr
            rw [if_neg (fun h => Int32.lt_irrefl (Int32.lt_of_lt_of_le c3 h))]
            rcases who_cases (hm := hm) (h := nI (w e)) (D 1) with e0 | ⟨x, a, b, e0⟩
            · rw [e0] at c3
              exact absurd (Int32.lt_trans c3 (by decide : (-1 : Int32) < 0)) (nI_pos (by omega))
            · rw [b] at c3 ⊢
              rw [b, nI_clamp (by omega)] at hr
              rw [nI_ltI (by omega) (by omega)] at c3
              exact ih2 (k + 1) x (by omega) a (fun h => by omega) hr
          · rw [if_neg c3] at hr
            rw [if_pos (Int32.not_lt.mp c3)]
            refine fin _ _ _ (k + 1) (by omega) (Or.inl rfl) ?_
            rw [swc, if_neg c, if_neg c, ← hr]
            by_cases c4 : who hm (nI (w e)) (D 1) = nI j
            · rw [if_pos c4, if_pos (decide_eq_true c4), nI_pred, Nat.add_zero]
            · rw [if_neg c4, if_neg (by simp [c4]), Int32.sub_zero]
      exact cl 6 0 j (by decide) hj (fun _ => by decide) (rg_same h6 hj (fun i hi2 => by have := (hC i hi2).2; omega) hi)
def STk : Nat → Nat → Prop := fun a i => a = 180 ∨ (a = 159 ∧ (i = 33 ∨ i = 34))
theorem M_takes_ok {x y : Int32} (hs : q_Sh σ) (hD : WfD D) (hT : MT0 σ D P) (hC : HB σ 1804 D w) (hq : ∀ σ', Fr STk noL σ σ' → q_I σ' 159 33 = x → q_I σ' 159 34 = y → (∀ f, f < D 1 → q_I σ' 180 f = nI (w f)) → Q none σ') : q_Call G (d + 1) 0 0 X_M_takesWay [.ref 159, .int x, .int y] σ Q := by
  have h6 := hD.F6
  refine q_cv0 (P := fun σ' => Fr STk noL σ σ' ∧ q_I σ' 159 33 = x ∧ q_I σ' 159 34 = y ∧ (∀ f, f < D 1 → q_I σ' 180 f = nI (w f))) (by decide +kernel) (Nat.le_of_ble_eq_true rfl) (fun Q hq => ?_) (fun σ' h => hq σ' h.1 h.2.1 h.2.2.1 h.2.2.2)
  have kT : ∀ σ1, Fr STk noL σ σ1 → MT0 σ1 D P := fun σ1 fr => hT.fr fr (fun a i z => by unfold STk at z; omega)
  refine v_M_takesWay_0 hs ?_
  refine up_ind (R := fun k => ∀ σ1, Fr STk noL σ σ1 → q_I σ1 159 33 = x → q_I σ1 159 34 = y → (∀ f, f < k → q_I σ1 180 f = nI (w f)) → q_At G X_M_takesWay (d + 1) 0 0 12 [some (.ref 159), some (.int x), some (.int y), some (.int (nI k))] [] σ1 Q) (n := D 1) (fun σ1 fr g1 g2 g3 => ?_) (fun k hk ih σ1 fr g1 g2 g3 => ?_) 0 (Nat.zero_le _) _ (Fr.tr (Fr.setI (Or.inr ⟨rfl, Or.inl rfl⟩)) (Fr.setI (Or.inr ⟨rfl, Or.inr rfl⟩))) (by rw [q_I_ne (by omega), q_I_eq]) q_I_eq (fun j hj => absurd hj (Nat.not_lt_zero j))
  · exact v_M_takesWay_12 (fr.sh hs) ⟨fun _ => hq σ1 ⟨fr, g1, g2, g3⟩, fun c => absurd (by rw [(kT σ1 fr).F]; exact Int32.le_refl _) c⟩
  · refine v_M_takesWay_12 (fr.sh hs) ⟨fun c => by rw [(kT σ1 fr).F] at c; exact ge_not c hk (by omega), fun _ => ⟨1804 + k, nI_add 1804 k, by omega, k, rfl, by omega, ?_⟩⟩
    rw [nI_1, fr.2.2.1 175 _ (fun z => by unfold STk at z; omega), (hC k hk).1]
    refine ih _ (fr.tr (Fr.setI (Or.inl rfl))) (by rw [q_I_ne (by omega)]; exact g1) (by rw [q_I_ne (by omega)]; exact g2) (fun j hj => ?_)
    by_cases cj : j = k
    · subst cj; exact q_I_eq
    · rw [q_I_ne (by omega)]; exact g3 j (by omega)
end MSWAPS
