section CLINES2
variable {G : q_G} {d : Nat} {σ σ' σ1 : q_S} {Q : Option Value → q_S → Prop} {tp : List Nat} {i t M : Nat} {s : q_ts} {S : List Int32}
-- customs
theorem Rd_cust_ok {x : Nat} (hx : x < 2) (hM : IsM tp M) (hw : WTp tp) (hd : 8 ≤ d) (ht : q_isTw t) (hP : RdP tp t M σ s S i) (hW : WS s)
    (hq1 : (lnC tp s x i).1 = 0 → ∀ σ', Fk (SRt t) (LRt t) σ σ' → CK σ' tp (lnC tp s x i).2.1 → q_I σ' 3 9 = 0 → CTr (q_setI σ' t (16 + x) (nI (s.1 (3 + x) + 1))) t (lnC tp s x i).2.2 S → q_I σ' t (16 + x) = nI (s.1 (3 + x)) → S.length ≤ 15 + (lnC tp s x i).2.1 → Q (some (.int 1)) σ')
    (hq0 : (lnC tp s x i).1 ≠ 0 → ∀ σ', RdV tp t σ (lnC tp s x i) 0 σ' → Q (some (.int 0)) σ') : q_Call G d 0 0 X_Rd_readCustom [.ref 4, .ref t, .int (nI (s.1 (3 + x))), .int (nI (4 * x))] σ Q := by
  obtain ⟨d, rfl⟩ : ∃ d', d = d' + 1 := ⟨d - 1, by omega⟩
  obtain ⟨hs, hK, hT, h15, hz, hi⟩ := hP
  have h0 := isTw_cases ht
  have h6 := hW.1.F6
  have h4 : s.1 (3 + x) ≤ 4 := by
    have hx : x = 0 ∨ x = 1 := by omega
    rcases hx with z | z <;> subst z
    · exact hW.1.2.2.1
    · exact hW.1.2.2.2.1
  refine q_cii (Pp := fun v σ' => ((lnC tp s x i).1 = 0 ∧ v = 1 ∧ Fk (SRt t) (LRt t) σ σ' ∧ CK σ' tp (lnC tp s x i).2.1 ∧ q_I σ' 3 9 = 0 ∧ CTr (q_setI σ' t (16 + x) (nI (s.1 (3 + x) + 1))) t (lnC tp s x i).2.2 S ∧ q_I σ' t (16 + x) = nI (s.1 (3 + x)) ∧ S.length ≤ 15 + (lnC tp s x i).2.1) ∨ ((lnC tp s x i).1 ≠ 0 ∧ v = 0 ∧ RdV tp t σ (lnC tp s x i) 0 σ')) (by decide +kernel) (Nat.le_of_ble_eq_true rfl) (fun Q hv => ?_) (fun v σ' h => by
    rcases h with ⟨a, b, c, e, f, g, h, k⟩ | ⟨a, b, c⟩
    · rw [b]; exact hq1 a σ' c e f g h k
    · rw [b]; exact hq0 a σ' c)
  have l4 : (nI (s.1 (3 + x)) < 4) ↔ s.1 (3 + x) < 4 := nI_ltI (b := 4) (by omega) (by decide)
  have nok : ∀ {k j : Nat} {σ2 : q_S}, lnC tp s x i = (k, j, s) → k ≠ 0 → Fk (SRt t) (LRt t) σ σ2 → q_I σ2 3 9 = nI (flt tp k j) → Q (some (.int 0)) σ2 := fun e hk hf hz => hv _ _ (Or.inr ⟨by rw [e]; exact hk, rfl, RdV.bad e hk hf hz⟩)
  refine v_Rd_readCustom_0 ht hs ⟨fun c => ?_, fun c => ?_⟩
  · rw [l4] at c
    have c4 : ¬ 4 ≤ s.1 (3 + x) := by omega
    refine Tk_next (by omega) hs hw hK (fun σ1 f1 k1 => ⟨f1.sh hs, rfl, ?_⟩)
    have hs1 := f1.sh hs
    have T1 := hT.k ht f1 (fun a j z => lt27A z) (fun a j z => lt27l z)
    refine Rd_two_ok (b := 20) (Or.inr ⟨rfl, rfl⟩) (by omega) ht hs1 hw k1 (f39 f1 hz) (T1.nm hW) (fun e σ2 f2 k2 g1 g2 z2 => ⟨f2.sh hs1, _, rfl, fun _ => ?_, fun z => absurd z (by decide)⟩) (fun e σ2 f2 z2 => ⟨f2.sh hs1, _, rfl, fun z => absurd rfl z, fun _ => nok (by unfold lnC; rw [if_neg c4, if_neg e]) e ((FAt f1).tr (F4t f2)) z2⟩)
    have hs2 := f2.sh hs1
    have T2 := T1.k ht f2 (fun a j z => lt27s z) (fun a j z => lt27l z)
    have F2 : Fk (SRt t) (LRt t) σ σ2 := (FAt f1).tr (F4t f2)
    have eE := e
    unfold twF at e
    by_cases ea : tdF s.2.2.2 20 (tk tp (i + 1)) = 0
    · rw [if_pos ea] at e
      by_cases eb : tdF s.2.2.2 20 (tk tp (i + 1 + 1)) = 0
      · rw [if_pos eb] at e
        have a6 := ((tdX_lt (T := tk tp (i + 1)) hW.1 hW.2.2.1).2 ea).1
        have b6 := ((tdX_lt (T := tk tp (i + 1 + 1)) hW.1 hW.2.2.1).2 eb).1
        rw [show i + 1 + 1 = i + 2 from rfl] at b6 g2
        have eR : lnC tp s x i = (0, i + 3, (cuD s.1 x (tdX s.2.2.2 20 (tk tp (i + 1))) (tdX s.2.2.2 20 (tk tp (i + 2))), s.2)) := by unfold lnC; rw [if_neg c4, if_pos eE]
        rw [g1, g2]
        generalize tdX s.2.2.2 20 (tk tp (i + 1)) = A at *
        generalize tdX s.2.2.2 20 (tk tp (i + 2)) = B at *
        refine W_pairBit_ok (d := d - 1) (f := A) (e := B) hs2 (by omega) (by omega) ?_ |> fun h => by rwa [show d - 1 + 1 = d by omega] at h
        refine ⟨hs2, _, rfl, 4 * x + s.1 (3 + x), nI_add _ _, by omega, ?_⟩
        have FL : Fk (SRt t) (LRt t) σ (q_setL σ2 (t + 11) (4 * x + s.1 (3 + x)) (pbit A B)) := F2.tr (FLt ⟨by omega, by omega⟩)
        have hsL := FL.sh hs
        have KL : CK (q_setL σ2 (t + 11) (4 * x + s.1 (3 + x)) (pbit A B)) tp (i + 2) := k2.lt ht (t := t) ⟨by omega, by omega⟩
        refine Tk_next (by omega) hsL hw KL (fun σ3 f3 k3 => ⟨f3.sh hsL, rfl, hv _ _ (Or.inl ?_)⟩)
        rw [eR]
        have F3 := FL.tr (FAt f3 (t := t))
        have T3 : CTr σ2 t s S := T2
        have kI : ∀ a j, 27 ≤ a → q_I σ3 a j = q_I σ2 a j := fun a j z => f3.2.2.1 _ _ (fun y => by have := lt27A y; omega)
        have kL : ∀ a j, 27 ≤ a → ¬ (a = t + 11 ∧ j = 4 * x + s.1 (3 + x)) → q_L σ3 a j = q_L σ2 a j := fun a j z y => by rw [f3.2.2.2 _ _ (fun w => by have := lt27l w; omega), q_L_ne y]
        have kN : q_L σ3 (t + 11) (4 * x + s.1 (3 + x)) = pbit A B := by rw [f3.2.2.2 _ _ (fun w => by have := lt27l w; omega), q_L_eq]
        have e16 : q_I σ3 t (16 + x) = nI (s.1 (3 + x)) := by
          rw [kI _ _ (by omega)]
          refine T3.1.v (i := 3 + x) (by omega) (by omega) (by omega) ?_
          have hx : x = 0 ∨ x = 1 := by omega
          rcases hx with z | z <;> subst z <;> rfl
        obtain ⟨c1, c2, c3, c4', c5⟩ := T3
        refine ⟨rfl, rfl, F3, k3, f39 f3 (show q_I σ2 3 9 = 0 from z2), ⟨?_, ⟨fun k hk => ?_, fun k hk => ?_⟩, fun y hy => ?_, ⟨by rw [q_I_ne (by omega), kI _ _ (by omega)]; exact c4'.1, fun k hk => by rw [q_I_ne (by omega), kI _ _ (by omega)]; exact c4'.2 k hk⟩, fun w hw => ?_⟩, e16, by show S.length ≤ 15 + (i + 3); omega⟩
        · intro j j1 j2 j3
          have j3 : 44 + 4 * cuD s.1 x A B 1 ≤ j → 68 ≤ j := j3
          have d1 : cuD s.1 x A B 1 = s.1 1 := by unfold cuD; rw [updN_ne (by omega), updN_ne (by omega), updN_ne (by omega)]
          rw [d1] at j3
          show _ = nI (cuD s.1 x A B j)
          by_cases ej : j = 3 + x
          · have ec : cloc t j = (t, 16 + x) := by
              subst ej
              have hx : x = 0 ∨ x = 1 := by omega
              rcases hx with z | z <;> subst z <;> rfl
            rw [ec, q_I_eq]
            subst ej
            unfold cuD
            rw [updN_at]
          · have ne : ¬ ((cloc t j).1 = t ∧ (cloc t j).2 = 16 + x) := fun z => ej (cloc_inj (t := t) j1 j2 (show 3 + x < 176 by omega) (by omega) (by
                have ec : cloc t (3 + x) = (t, 16 + x) := by
                  have hx : x = 0 ∨ x = 1 := by omega
                  rcases hx with z | z <;> subst z <;> rfl
                rw [ec]; exact z.1) (by
                have ec : cloc t (3 + x) = (t, 16 + x) := by
                  have hx : x = 0 ∨ x = 1 := by omega
                  rcases hx with z | z <;> subst z <;> rfl
                rw [ec]; exact z.2))
            have hin := cloc_in (t := t) j1 j2
            rw [q_I_ne ne, kI _ _ (by omega)]
            unfold cuD
            rw [updN_ne ej, updN_ne (by omega), updN_ne (by omega)]
            exact c1 j j1 j2 j3
        · have hk : k < cuD s.1 x A B 3 := hk
          show q_L σ3 (t + 11) k = pbit (cuD s.1 x A B (176 + 2 * k)) (cuD s.1 x A B (177 + 2 * k))
          have hx : x = 0 ∨ x = 1 := by omega
          rcases hx with z | z
          · subst z
            have e3 : cuD s.1 0 A B 3 = s.1 3 + 1 := by unfold cuD; rw [updN_at]
            rw [e3] at hk
            by_cases ek : k = s.1 3
            · subst ek
              have := kN
              rw [Nat.mul_zero, Nat.zero_add] at this
              have u1 : cuD s.1 0 A B (176 + 2 * s.1 3) = A := by unfold cuD; rw [updN_ne (by omega), updN_ne (by omega)]; show updN s.1 (176 + 8 * 0 + 2 * s.1 (3 + 0)) A (176 + 2 * s.1 3) = A; rw [show 176 + 8 * 0 + 2 * s.1 (3 + 0) = 176 + 2 * s.1 3 from rfl, updN_at]
              have u2 : cuD s.1 0 A B (177 + 2 * s.1 3) = B := by unfold cuD; rw [updN_ne (by omega), show 177 + 8 * 0 + 2 * s.1 (3 + 0) = 177 + 2 * s.1 3 from rfl, updN_at]
              rw [u1, u2]
              exact this
            · have q30 : s.1 (3 + 0) = s.1 3 := rfl
              have u1 : cuD s.1 0 A B (176 + 2 * k) = s.1 (176 + 2 * k) := by unfold cuD; rw [updN_ne (by omega), updN_ne (by omega), updN_ne (by omega)]
              have u2 : cuD s.1 0 A B (177 + 2 * k) = s.1 (177 + 2 * k) := by unfold cuD; rw [updN_ne (by omega), updN_ne (by omega), updN_ne (by omega)]
              rw [u1, u2, kL _ _ (by omega) (by omega)]
              exact c2.1 k (by omega)
          · subst z
            have e3 : cuD s.1 1 A B 3 = s.1 3 := by unfold cuD; rw [updN_ne (by omega), updN_ne (by omega), updN_ne (by omega)]
            rw [e3] at hk
            have := hW.1.2.2.1
            have u1 : cuD s.1 1 A B (176 + 2 * k) = s.1 (176 + 2 * k) := by unfold cuD; rw [updN_ne (by omega), updN_ne (by omega), updN_ne (by omega)]
            have u2 : cuD s.1 1 A B (177 + 2 * k) = s.1 (177 + 2 * k) := by unfold cuD; rw [updN_ne (by omega), updN_ne (by omega), updN_ne (by omega)]
            rw [u1, u2, kL _ _ (by omega) (by omega)]
            exact c2.1 k (by omega)
        · have hk : k < cuD s.1 x A B 4 := hk
          show q_L σ3 (t + 11) (4 + k) = pbit (cuD s.1 x A B (184 + 2 * k)) (cuD s.1 x A B (185 + 2 * k))
          have hx : x = 0 ∨ x = 1 := by omega
          rcases hx with z | z
          · subst z
            have e3 : cuD s.1 0 A B 4 = s.1 4 := by unfold cuD; rw [updN_ne (by omega), updN_ne (by omega), updN_ne (by omega)]
            rw [e3] at hk
            have c : s.1 3 < 4 := c
            have u1 : cuD s.1 0 A B (184 + 2 * k) = s.1 (184 + 2 * k) := by unfold cuD; rw [updN_ne (by omega), updN_ne (by omega), updN_ne (by omega)]
            have u2 : cuD s.1 0 A B (185 + 2 * k) = s.1 (185 + 2 * k) := by unfold cuD; rw [updN_ne (by omega), updN_ne (by omega), updN_ne (by omega)]
            rw [u1, u2, kL _ _ (by omega) (by omega)]
            exact c2.2 k (by omega)
          · subst z
            have e3 : cuD s.1 1 A B 4 = s.1 4 + 1 := by unfold cuD; rw [updN_at]
            rw [e3] at hk
            by_cases ek : k = s.1 4
            · subst ek
              have u1 : cuD s.1 1 A B (184 + 2 * s.1 4) = A := by unfold cuD; rw [updN_ne (by omega), updN_ne (by omega), show 176 + 8 * 1 + 2 * s.1 (3 + 1) = 184 + 2 * s.1 4 from rfl, updN_at]
              have u2 : cuD s.1 1 A B (185 + 2 * s.1 4) = B := by unfold cuD; rw [updN_ne (by omega), show 177 + 8 * 1 + 2 * s.1 (3 + 1) = 185 + 2 * s.1 4 from rfl, updN_at]
              rw [u1, u2]
              exact kN
            · have q31 : s.1 (3 + 1) = s.1 4 := rfl
              have u1 : cuD s.1 1 A B (184 + 2 * k) = s.1 (184 + 2 * k) := by unfold cuD; rw [updN_ne (by omega), updN_ne (by omega), updN_ne (by omega)]
              have u2 : cuD s.1 1 A B (185 + 2 * k) = s.1 (185 + 2 * k) := by unfold cuD; rw [updN_ne (by omega), updN_ne (by omega), updN_ne (by omega)]
              rw [u1, u2, kL _ _ (by omega) (by omega)]
              exact c2.2 k (by omega)
        · rw [q_L_setI, q_L_setI, kL _ _ (by omega) (by omega), kL _ _ (by omega) (by omega)]
          exact c3 y hy
        · rw [q_I_ne (by omega), q_I_ne (by omega), q_I_ne (by omega), kI _ _ (by omega), kI _ _ (by omega), kI _ _ (by omega)]
          exact c5 w hw
      · rw [if_neg eb] at e
        exact absurd e eb
    · rw [if_neg ea] at e
      exact absurd e ea
  · rw [l4] at c
    exact Tk_refuse_ok (k := 5) hs hK (fun σ1 f1 z1 => ⟨f1.sh hs, _, rfl, rfl, nok (by unfold lnC; rw [if_pos (by omega)]) (by decide) (F9t f1) z1⟩)
theorem Rd_apart_ok (hM : IsM tp M) (hw : WTp tp) (hd : 9 ≤ d) (ht : q_isTw t) (hP : RdP tp t M σ s S i) (hW : WS s) (hq : ∀ v σ', RdV tp t σ (lnC tp s 0 i) v σ' → Q (some (.int v)) σ') : q_Call G d 0 0 X_Rd_readApart [.ref 4, .ref t] σ Q := by
  obtain ⟨d, rfl⟩ : ∃ d', d = d' + 1 := ⟨d - 1, by omega⟩
  have h0 := isTw_cases ht
  refine q_cii (Pp := RdV tp t σ (lnC tp s 0 i)) (by decide +kernel) (Nat.le_of_ble_eq_true rfl) (fun Q hv => ?_) hq
  have e16 : q_I σ t 16 = nI (s.1 (3 + 0)) := hP.2.2.1.1.v (i := 3) (by decide) (by decide) (by omega) rfl
  refine v_Rd_readApart_0 ht hP.1 ?_
  rw [e16]
  refine Rd_cust_ok (x := 0) (by decide) hM hw (by omega) ht hP hW (fun r0 σ1 f1 k1 z1 T1 g1 l1 => ⟨f1.sh hP.1, _, rfl, fun _ => hv _ _ (Or.inl ⟨r0, rfl, f1.tr (FIt ⟨by omega, by omega⟩), k1.it ht (t := t) ⟨by omega, by omega⟩, f39t ht ⟨by omega, by omega⟩ z1, S, ?_, l1⟩), fun z => absurd z (by decide)⟩) (fun r0 σ1 hV => ?_)
  · have g1 : q_I σ1 t 16 = nI (s.1 (3 + 0)) := g1
    rw [g1, nI_1]
    exact T1
  · have hV2 := hV
    rcases hV with h | h
    · exact absurd h.1 r0
    · exact ⟨h.2.2.1.sh hP.1, _, rfl, fun z => absurd rfl z, fun _ => hv _ _ hV2⟩
theorem Rd_beside_ok (hM : IsM tp M) (hw : WTp tp) (hd : 9 ≤ d) (ht : q_isTw t) (hP : RdP tp t M σ s S i) (hW : WS s) (hq : ∀ v σ', RdV tp t σ (lnC tp s 1 i) v σ' → Q (some (.int v)) σ') : q_Call G d 0 0 X_Rd_readBeside [.ref 4, .ref t] σ Q := by
  obtain ⟨d, rfl⟩ : ∃ d', d = d' + 1 := ⟨d - 1, by omega⟩
  have h0 := isTw_cases ht
  refine q_cii (Pp := RdV tp t σ (lnC tp s 1 i)) (by decide +kernel) (Nat.le_of_ble_eq_true rfl) (fun Q hv => ?_) hq
  have e16 : q_I σ t 17 = nI (s.1 (3 + 1)) := hP.2.2.1.1.v (i := 4) (by decide) (by decide) (by omega) rfl
  refine v_Rd_readBeside_0 ht hP.1 ?_
  rw [e16]
  refine Rd_cust_ok (x := 1) (by decide) hM hw (by omega) ht hP hW (fun r0 σ1 f1 k1 z1 T1 g1 l1 => ⟨f1.sh hP.1, _, rfl, fun _ => hv _ _ (Or.inl ⟨r0, rfl, f1.tr (FIt ⟨by omega, by omega⟩), k1.it ht (t := t) ⟨by omega, by omega⟩, f39t ht ⟨by omega, by omega⟩ z1, S, ?_, l1⟩), fun z => absurd z (by decide)⟩) (fun r0 σ1 hV => ?_)
  · have g1 : q_I σ1 t 17 = nI (s.1 (3 + 1)) := g1
    rw [g1, nI_1]
    exact T1
  · have hV2 := hV
    rcases hV with h | h
    · exact absurd h.1 r0
    · exact ⟨h.2.2.1.sh hP.1, _, rfl, fun z => absurd rfl z, fun _ => hv _ _ hV2⟩
end CLINES2
