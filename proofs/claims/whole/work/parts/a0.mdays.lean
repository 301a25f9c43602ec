-- days read by the reference
def MYr (σ : q_S) (dy : q_dy) : Prop := ∀ k x, dy[k]? = some x → q_I σ 172 (110 + 4 * k) = nI x.1 ∧ (x.1 = 0 → q_I σ 172 (111 + 4 * k) = nI x.2.2.2) ∧ (x.1 ≠ 0 → q_I σ 172 (111 + 4 * k) = nI x.2.1 ∧ q_I σ 172 (112 + 4 * k) = nI x.2.2.1) ∧ (2 ≤ x.1 → q_I σ 172 (113 + 4 * k) = nI x.2.2.2)
def SDm : Nat → Nat → Prop := fun a i => (a = 172 ∧ 110 ≤ i) ∨ (a = 159 ∧ (i = 7 ∨ i = 8))
def SDk (n : Nat) : Nat → Nat → Prop := fun a i => (a = 172 ∧ 110 + 4 * n ≤ i ∧ i < 114 + 4 * n) ∨ (a = 159 ∧ (i = 7 ∨ i = 8))
def MdV (tp : List Nat) (M : Nat) (σ : q_S) (n : Nat) (r : q_dr) (σ' : q_S) : Prop := Fr (SDk n) noL σ σ' ∧ ((r.1 = 0 ∧ MK σ' tp M r.2.1 ∧ MYr σ' r.2.2) ∨ (r.1 ≠ 0 ∧ FX σ' (nI (flt tp r.1 r.2.1))))
section MDAYS
variable {G : q_G} {d : Nat} {σ σ' σ1 : q_S} {Q : Option Value → q_S → Prop} {i M : Nat} {D : Nat → Nat} {P : Nat → List Int32} {N : q_nm} {hm : Nat → Nat} {L : Nat → Int32} {un : List q_lf} {mk : Nat → Option (q_lf × q_tl)} {tl : q_tl} {dy : q_dy} {tp : List Nat}
theorem MYr.fr {SI SL : Nat → Nat → Prop} (h : MYr σ dy) (hf : Fr SI SL σ σ') (hI : ∀ a j, SI a j → ¬ (a = 172 ∧ j < 110 + 4 * dy.length)) : MYr σ' dy := fun k x hx => by
  have hk : k < dy.length := (List.getElem?_eq_some_iff.mp hx).1
  rw [hf.2.2.1 _ _ (fun z => hI _ _ z (by omega)), hf.2.2.1 _ _ (fun z => hI _ _ z (by omega)), hf.2.2.1 _ _ (fun z => hI _ _ z (by omega)), hf.2.2.1 _ _ (fun z => hI _ _ z (by omega))]
  exact h k x hx
theorem MYr.add {x : Nat × Nat × Nat × Nat} (h : MYr σ dy) (h0 : q_I σ 172 (110 + 4 * dy.length) = nI x.1) (h1 : x.1 = 0 → q_I σ 172 (111 + 4 * dy.length) = nI x.2.2.2) (h2 : x.1 ≠ 0 → q_I σ 172 (111 + 4 * dy.length) = nI x.2.1 ∧ q_I σ 172 (112 + 4 * dy.length) = nI x.2.2.1) (h3 : 2 ≤ x.1 → q_I σ 172 (113 + 4 * dy.length) = nI x.2.2.2) : MYr σ (dy ++ [x]) := fun k y hy => by
  rcases ap_get hy with ⟨k1, k2⟩ | ⟨k1, k2⟩
  · exact h k y k2
  · subst k1
    subst k2
    exact ⟨h0, h1, h2, h3⟩
theorem S78_d {n : Nat} (hf : Fr S78 noL σ σ') : Fr (SDk n) noL σ σ' := hf.mono (fun a j z => by unfold S78 at z; unfold SDk; omega) (fun _ _ z => z)
theorem Fr172 {n j : Nat} {v : Int32} (h : 110 + 4 * n ≤ j ∧ j < 114 + 4 * n) : Fr (SDk n) noL σ (q_setI σ 172 j v) := Fr.setI (Or.inl ⟨rfl, h.1, h.2⟩)
theorem MK.w172 {j : Nat} {v : Int32} (h : MK σ tp M i) : MK (q_setI σ 172 j v) tp M i := h.fr (SI := fun a _ => a = 172) (SL := noL) (Fr.setI rfl) (fun a k z => by omega) (fun _ _ z => z.elim)
theorem FX.w172 {j : Nat} {v x : Int32} (h : FX σ x) : FX (q_setI σ 172 j v) x := h.fr (SI := fun a _ => a = 172) (SL := noL) (Fr.setI rfl) (fun a k z => by omega)
theorem MNs.w172 {r j : Nat} {v : Int32} (h : MNs σ r N) (hr : r = 0 ∨ r = 1) : MNs (q_setI σ 172 j v) r N := h.fr hr (SI := fun a _ => a = 172) (SL := noL) (Fr.setI rfl) (fun a k z => by omega) (fun _ _ z => z.elim)
theorem MNs.s78 {r : Nat} (h : MNs σ r N) (hr : r = 0 ∨ r = 1) (hf : Fr S78 noL σ σ') : MNs σ' r N := h.fr hr hf (fun a j z => by unfold S78 at z; omega) (fun _ _ z => z.elim)
theorem i78 {j : Nat} (hf : Fr S78 noL σ σ') : q_I σ' 172 j = q_I σ 172 j := hf.2.2.1 _ _ (fun z => by unfold S78 at z; omega)
theorem M_day_ok (hd : 5 ≤ d) (hw : WTp tp) (hM : IsM tp M) (hs : q_Sh σ) (hK : MK σ tp M (i + 1)) (hN : MNs σ 0 N) (hk : okN N) (hY : MYr σ dy) (hl : dy.length < 24) (hT : ¬ acT (tk tp i) = -1) (h110 : q_I σ 172 (110 + 4 * dy.length) = nI ((tk tp i).2.2.1 - 14)) (hq : ∀ σ', MdV tp M σ dy.length (dlA tp N dy i) σ' → Q none σ') : q_Call G d 0 0 X_M_readDay [.ref 159, .int (nI ((tk tp i).2.2.1 - 14)), .int (nI (111 + 4 * dy.length))] σ Q := by
  obtain ⟨d, rfl⟩ : ∃ d', d = d' + 1 := ⟨d - 1, by omega⟩
  obtain ⟨t1, t2, t3, t4⟩ := acT_n hT
  refine q_cv0 (P := MdV tp M σ dy.length (dlA tp N dy i)) (by decide +kernel) (Nat.le_of_ble_eq_true rfl) (fun Q hq => ?_) hq
  have eA : ∀ r, (if (tk tp i).2.2.1 = 14 then (if nmF (tk tp (i + 1)) 0 9999 = 0 then (0, i + 2, dy ++ [(0, 0, 0, (tk tp (i + 1)).2.2.1)]) else (nmF (tk tp (i + 1)) 0 9999, i + 1, dy)) else if (twF tp N 20 (i + 1)).1 = 0 then (if (tk tp i).2.2.1 = 15 then (0, i + 3, dy ++ [(1, tdX N 20 (tk tp (i + 1)), tdX N 20 (tk tp (i + 2)), 0)]) else if nmF (tk tp (i + 3)) 1 999 = 0 then (0, i + 4, dy ++ [((tk tp i).2.2.1 - 14, tdX N 20 (tk tp (i + 1)), tdX N 20 (tk tp (i + 2)), (tk tp (i + 3)).2.2.1)]) else (nmF (tk tp (i + 3)) 1 999, i + 3, dy)) else ((twF tp N 20 (i + 1)).1, (twF tp N 20 (i + 1)).2, dy)) = r → dlA tp N dy i = r := fun r h => by
    unfold dlA
    rw [if_neg hT, if_neg (by omega)]
    exact h
  have z0 : (nI ((tk tp i).2.2.1 - 14) = 0) ↔ (tk tp i).2.2.1 = 14 := by
    rw [show (0 : Int32) = nI 0 from rfl, nI_eq (by omega) (by decide)]
    omega
  have z1 : (nI ((tk tp i).2.2.1 - 14) ≤ 1) ↔ (tk tp i).2.2.1 ≤ 15 := by
    rw [show (1 : Int32) = nI 1 from rfl, nI_leI (by omega) (by decide)]
    omega
  have x1 : nI (111 + 4 * dy.length) + 1 = nI (112 + 4 * dy.length) := by
    rw [nI_1]
    congr 1
    omega
  have x2 : nI (111 + 4 * dy.length) + 2 = nI (113 + 4 * dy.length) := by
    rw [show (2 : Int32) = nI 2 from rfl, nI_add]
    congr 1
    omega
  -- with a fault only the spare rows change
  have bad : ∀ (v : Int32) (σ2 : q_S), (dlA tp N dy i).1 ≠ 0 → v = nI (flt tp (dlA tp N dy i).1 (dlA tp N dy i).2.1) → Fr (SDk dy.length) noL σ σ2 → FX σ2 v → ((nI ((tk tp i).2.2.1 - 14) ≤ 1 → (∃ k21, (nI (111 + 4 * dy.length) + 2) = nI k21 ∧ k21 < 210 ∧ Q none (q_setI (q_setI σ2 159 7 ((q_I σ2 159 7) + (if (q_I σ2 159 8) ≤ 0 then (1 : Int32) else (0 : Int32)))) 172 k21 0))) ∧ (¬ nI ((tk tp i).2.2.1 - 14) ≤ 1 → q_Call G d 0 0 X_M_takeNumber [.ref 159, .int 1, .int 999] (q_setI σ2 159 7 ((q_I σ2 159 7) + (if (q_I σ2 159 8) ≤ 0 then (1 : Int32) else (0 : Int32)))) (q_ri (fun x26 σ24 => (∃ k28, (nI (111 + 4 * dy.length) + 2) = nI k28 ∧ k28 < 210 ∧ Q none (q_setI σ24 172 k28 x26)))))) := fun v σ2 hr hv f2 xx => by
    rw [if_neg xx.nle, add0]
    subst hv
    exact ⟨fun _ => ⟨_, x2, by omega, hq _ ⟨f2.tr (Fr172 ⟨by omega, by omega⟩), Or.inr ⟨hr, xx.w172⟩⟩⟩, fun _ => M_number_no (by omega) (f2.sh hs) xx ⟨f2.sh hs, _, rfl, _, x2, by omega, hq _ ⟨f2.tr (Fr172 ⟨by omega, by omega⟩), Or.inr ⟨hr, xx.w172⟩⟩⟩⟩
  refine v_M_readDay_0 hs ⟨fun c0 => ?_, fun c0 => ?_⟩
  · rw [z0] at c0
    refine M_takeTold_ok (r := 0) (b := 20) (Or.inl rfl) (Or.inr rfl) (by omega) hw hM hs hK hN hk (fun ta σ2 f2 k2 => ⟨f2.sh hs, _, rfl, _, rfl, by omega, ?_⟩) (fun ta σ2 f2 xx => ⟨f2.sh hs, _, rfl, _, rfl, by omega, ?_⟩)
    · have hs2 := f2.sh hs
      have a6 := tdX_6 hk (Or.inr rfl) ta
      have F2 : Fr (SDk dy.length) noL σ (q_setI σ2 172 (111 + 4 * dy.length) (nI (tdX N 20 (tk tp (i + 1))))) := (S78_d f2).tr (Fr172 ⟨by omega, by omega⟩)
      refine M_here_ok (r := 0) (b := 20) (i := i + 2) (Or.inl rfl) (Or.inr rfl) (by omega) hw (F2.sh hs) k2.w172 ((hN.s78 (Or.inl rfl) f2).w172 (Or.inl rfl)) hk (fun tb => ⟨F2.sh hs, _, rfl, _, x1, by omega, ?_⟩) (fun tb σ3 f3 xx => ⟨f3.sh (F2.sh hs), _, rfl, _, x1, by omega, ?_⟩)
      · have b6 := tdX_6 hk (Or.inr rfl) tb
        have F3 := F2.tr (Fr172 (σ := q_setI σ2 172 (111 + 4 * dy.length) (nI (tdX N 20 (tk tp (i + 1))))) (n := dy.length) (j := 112 + 4 * dy.length) (v := nI (tdX N 20 (tk tp (i + 2)))) ⟨by omega, by omega⟩)
        have k3 : MK (q_setI (q_setI σ2 172 (111 + 4 * dy.length) (nI (tdX N 20 (tk tp (i + 1))))) 172 (112 + 4 * dy.length) (nI (tdX N 20 (tk tp (i + 2))))) tp M (i + 2) := k2.w172.w172
        have v1 : q_I (q_setI (q_setI σ2 172 (111 + 4 * dy.length) (nI (tdX N 20 (tk tp (i + 1))))) 172 (112 + 4 * dy.length) (nI (tdX N 20 (tk tp (i + 2))))) 172 (111 + 4 * dy.length) = nI (tdX N 20 (tk tp (i + 1))) := by rw [q_I_ne (by omega), q_I_eq]
        have v2 : q_I (q_setI (q_setI σ2 172 (111 + 4 * dy.length) (nI (tdX N 20 (tk tp (i + 1))))) 172 (112 + 4 * dy.length) (nI (tdX N 20 (tk tp (i + 2))))) 172 (112 + 4 * dy.length) = nI (tdX N 20 (tk tp (i + 2))) := q_I_eq
        have v0 : q_I (q_setI (q_setI σ2 172 (111 + 4 * dy.length) (nI (tdX N 20 (tk tp (i + 1))))) 172 (112 + 4 * dy.length) (nI (tdX N 20 (tk tp (i + 2))))) 172 (110 + 4 * dy.length) = nI ((tk tp i).2.2.1 - 14) := by rw [q_I_ne (by omega), q_I_ne (by omega), i78 f2]; exact h110
        have Y3 : MYr (q_setI (q_setI σ2 172 (111 + 4 * dy.length) (nI (tdX N 20 (tk tp (i + 1))))) 172 (112 + 4 * dy.length) (nI (tdX N 20 (tk tp (i + 2))))) dy := hY.fr F3 (fun a j z => by unfold SDk at z; omega)
        generalize q_setI (q_setI σ2 172 (111 + 4 * dy.length) (nI (tdX N 20 (tk tp (i + 1))))) 172 (112 + 4 * dy.length) (nI (tdX N 20 (tk tp (i + 2)))) = σ3 at F3 k3 v1 v2 v0 Y3 ⊢
        have hs3 := F3.sh hs
        have h0 := k3.2.2.1
        have l0 : q_I σ3 159 8 ≤ 0 := by rw [h0]; exact Int32.le_refl _
        have eAB : (q_I σ3 172 (111 + 4 * dy.length) = q_I σ3 172 (112 + 4 * dy.length)) ↔ tdX N 20 (tk tp (i + 1)) = tdX N 20 (tk tp (i + 2)) := by rw [v1, v2]; exact nI_eq (by omega) (by omega)
        refine ⟨fun z => absurd h0 z, fun _ => ⟨_, rfl, by omega, _, x1, by omega, fun z => ?_, fun z => ?_⟩⟩
        · rw [eAB] at z
          have tw : (twF tp N 20 (i + 1)).1 = 0 := by unfold twF; rw [if_pos ta, if_pos (show tdF N 20 (tk tp (i + 1 + 1)) = 0 from tb), if_neg (show ¬ tdX N 20 (tk tp (i + 1)) = tdX N 20 (tk tp (i + 1 + 1)) from z)]
          have i3 : i + 3 ≤ M := tk_up hM k3.2.2.2.1 (by rw [tdF_0 tb]; decide)
          rw [if_pos l0, k3.nx]
          have f4 : Fr S78 noL σ3 (q_setI σ3 159 7 (nI (i + 2 + 1))) := Fr.setI ⟨rfl, Or.inl rfl⟩
          have k4 := k3.at i3
          have hs4 := f4.sh hs3
          refine ⟨fun c1 => ⟨_, x2, by omega, hq _ ?_⟩, fun c1 => ?_⟩
          · rw [z1] at c1
            have e15 : (tk tp i).2.2.1 = 15 := by omega
            rw [eA _ (by rw [if_neg c0, if_pos tw, if_pos e15])]
            refine ⟨(F3.tr (S78_d f4)).tr (Fr172 ⟨by omega, by omega⟩), Or.inl ⟨rfl, k4.w172, MYr.add ?_ ?_ (fun y => absurd (show (1 : Nat) = 0 from y) (by decide)) (fun _ => ⟨?_, ?_⟩) (fun y => absurd (show (2 : Nat) ≤ 1 from y) (by decide))⟩⟩
            · exact Y3.fr ((S78_d (n := dy.length) f4).tr (Fr172 ⟨by omega, by omega⟩)) (fun a j y => by unfold SDk at y; omega)
            · rw [q_I_ne (by omega), i78 f4, v0, e15]
            · rw [q_I_ne (by omega), i78 f4]; exact v1
            · rw [q_I_ne (by omega), i78 f4]; exact v2
          · rw [z1] at c1
            refine M_number_ok (i := i + 3) (lo := 1) (hi := 999) (by omega) (by decide) (by decide) hw hM hs4 k4 (fun en σ5 f5 k5 => ⟨f5.sh hs4, _, rfl, _, x2, by omega, hq _ ?_⟩) (fun en σ5 f5 xx => ⟨f5.sh hs4, _, rfl, _, x2, by omega, hq _ ?_⟩)
            · rw [eA _ (by rw [if_neg c0, if_pos tw, if_neg (by omega), if_pos en])]
              refine ⟨((F3.tr (S78_d f4)).tr (S78_d f5)).tr (Fr172 ⟨by omega, by omega⟩), Or.inl ⟨rfl, k5.w172, MYr.add ?_ ?_ (fun y => ?_) (fun _ => ⟨?_, ?_⟩) (fun _ => ?_)⟩⟩
              · exact Y3.fr (((S78_d (n := dy.length) f4).tr (S78_d f5)).tr (Fr172 ⟨by omega, by omega⟩)) (fun a j y => by unfold SDk at y; omega)
              · rw [q_I_ne (by omega), i78 f5, i78 f4]; exact v0
              · have y : (tk tp i).2.2.1 - 14 = 0 := y
                omega
              · rw [q_I_ne (by omega), i78 f5, i78 f4]; exact v1
              · rw [q_I_ne (by omega), i78 f5, i78 f4]; exact v2
              · rw [q_I_eq]
            · rw [eA _ (by rw [if_neg c0, if_pos tw, if_neg (by omega), if_neg en])]
              exact ⟨((F3.tr (S78_d f4)).tr (S78_d f5)).tr (Fr172 ⟨by omega, by omega⟩), Or.inr ⟨en, xx.w172⟩⟩
        · rw [eAB] at z
          have tw : twF tp N 20 (i + 1) = (3, i + 1 + 1) := by unfold twF; rw [if_pos ta, if_pos (show tdF N 20 (tk tp (i + 1 + 1)) = 0 from tb), if_pos (show tdX N 20 (tk tp (i + 1)) = tdX N 20 (tk tp (i + 1 + 1)) from z)]
          have er : dlA tp N dy i = (3, i + 1 + 1, dy) := eA _ (by rw [if_neg c0, tw]; rfl)
          refine M_wrong_ok (k := 3) hs3 k3 hw.1 (by decide) (by decide) (fun σ4 f4 xx => ⟨f4.sh hs3, rfl, ?_⟩)
          exact bad _ σ4 (by rw [er]; exact (by decide : (3 : Nat) ≠ 0)) (by rw [er]) (F3.tr (S78_d f4)) xx
      · have tw : twF tp N 20 (i + 1) = (tdF N 20 (tk tp (i + 1 + 1)), i + 1 + 1) := by unfold twF; rw [if_pos ta, if_neg (show ¬ tdF N 20 (tk tp (i + 1 + 1)) = 0 from tb)]
        have er : dlA tp N dy i = (tdF N 20 (tk tp (i + 1 + 1)), i + 1 + 1, dy) := eA _ (by rw [if_neg c0, tw]; exact if_neg tb)
        exact ⟨fun _ => bad _ _ (by rw [er]; exact tb) (by rw [er]) ((F2.tr (S78_d f3)).tr (Fr172 ⟨by omega, by omega⟩)) xx.w172, fun z => absurd z xx.w172.n0⟩
    · have tw : twF tp N 20 (i + 1) = (tdF N 20 (tk tp (i + 1)), i + 1) := by unfold twF; rw [if_neg ta]
      have er : dlA tp N dy i = (tdF N 20 (tk tp (i + 1)), i + 1, dy) := eA _ (by rw [if_neg c0, tw]; exact if_neg ta)
      have F2 : Fr (SDk dy.length) noL σ (q_setI σ2 172 (111 + 4 * dy.length) 0) := (S78_d f2).tr (Fr172 ⟨by omega, by omega⟩)
      refine M_here_no (by omega) (F2.sh hs) xx.w172 ⟨F2.sh hs, _, rfl, _, x1, by omega, fun _ => ?_, fun z => absurd z xx.w172.w172.n0⟩
      exact bad _ _ (by rw [er]; exact ta) (by rw [er]) (F2.tr (Fr172 ⟨by omega, by omega⟩)) xx.w172.w172
  · rw [z0] at c0
    refine M_number_ok (i := i + 1) (lo := 0) (hi := 9999) (by omega) (by decide) (by decide) hw hM hs hK (fun en σ5 f5 k5 => ⟨f5.sh hs, _, rfl, _, rfl, by omega, hq _ ?_⟩) (fun en σ5 f5 xx => ⟨f5.sh hs, _, rfl, _, rfl, by omega, hq _ ?_⟩)
    · rw [eA _ (by rw [if_pos c0, if_pos en])]
      refine ⟨(S78_d f5).tr (Fr172 ⟨by omega, by omega⟩), Or.inl ⟨rfl, k5.w172, MYr.add ?_ ?_ (fun _ => ?_) (fun y => absurd rfl y) (fun y => absurd (show (2 : Nat) ≤ 0 from y) (by decide))⟩⟩
      · exact hY.fr ((S78_d (n := dy.length) f5).tr (Fr172 ⟨by omega, by omega⟩)) (fun a j y => by unfold SDk at y; omega)
      · rw [q_I_ne (by omega), i78 f5, h110, c0]
      · rw [q_I_eq]
    · rw [eA _ (by rw [if_pos c0, if_neg en])]
      exact ⟨(S78_d f5).tr (Fr172 ⟨by omega, by omega⟩), Or.inr ⟨en, xx.w172⟩⟩
def SDt : Nat → Nat → Prop := fun a i => SDm a i ∨ SCu a i ∨ (a = 159 ∧ i = 0)
theorem MT.I {σ' : q_S} (h : MT σ D P) (hI : ∀ a i, a = 165 ∨ a = 166 ∨ a = 167 ∨ a = 177 → q_I σ' a i = q_I σ a i) : MT σ' D P := h.keep (fun i _ => hI _ _ (by omega)) (fun i => hI _ _ (by omega)) (fun i => hI _ _ (by omega)) (fun i => hI _ _ (by omega))
theorem M_days_ok (hM : IsM tp M) (hMl : M ≤ tp.length) (hd : 7 ≤ d) (hs : q_Sh σ) (hw : WJ D P N hm L un mk tl dy tp) (hJ : MJ σ D P N L un mk tl dy tp)
    (hq1 : (dyA tp N (tp.length + 1) [] 0).1 = 0 → ∀ σ', Fr hi_ hi_ σ σ' → WY D (dyA tp N (tp.length + 1) [] 0).2.2 → MJ σ' D P N L un mk tl (dyA tp N (tp.length + 1) [] 0).2.2 [] → Q (some (.int 0)) σ')
    (hq0 : (dyA tp N (tp.length + 1) [] 0).1 ≠ 0 → ∀ σ', Fr hi_ hi_ σ σ' → MJ σ' D P N L un mk tl dy [] → Q (some (.int (nI (flt tp (dyA tp N (tp.length + 1) [] 0).1 (dyA tp N (tp.length + 1) [] 0).2.1)))) σ') : q_Call G d 0 0 X_M_days [.ref 159] σ Q := by
  obtain ⟨d, rfl⟩ : ∃ d', d = d' + 1 := ⟨d - 1, by omega⟩
  have htp := hw.2.2.2.2.2.2.2.2.2
  have hl := htp.1
  have hN := hw.2.2.2.1
  have hk := hN.okN hw.1
  refine q_cii (Pp := fun v σ' => ((dyA tp N (tp.length + 1) [] 0).1 = 0 ∧ v = 0 ∧ Fr hi_ hi_ σ σ' ∧ WY D (dyA tp N (tp.length + 1) [] 0).2.2 ∧ MJ σ' D P N L un mk tl (dyA tp N (tp.length + 1) [] 0).2.2 []) ∨ ((dyA tp N (tp.length + 1) [] 0).1 ≠ 0 ∧ v = nI (flt tp (dyA tp N (tp.length + 1) [] 0).1 (dyA tp N (tp.length + 1) [] 0).2.1) ∧ Fr hi_ hi_ σ σ' ∧ MJ σ' D P N L un mk tl dy [])) (by decide +kernel) (Nat.le_of_ble_eq_true rfl) (fun Q hv => ?_) (fun v σ' h => by
    rcases h with ⟨a, b, c, e, f⟩ | ⟨a, b, c, e⟩
    · rw [b]; exact hq1 a σ' c e f
    · rw [b]; exact hq0 a σ' c e)
  generalize hr : dyA tp N (tp.length + 1) [] 0 = r at hv
  have tJ : ∀ {σ1 : q_S}, Fr SDt LTm σ σ1 → q_I σ1 159 2 = 0 → MJ σ1 D P N L un mk tl dy [] := fun f t => hJ.rd hw f (fun a i z y => by unfold SDt SDm SCu at z; unfold mj; omega) (fun a i z => by unfold LTm at z; unfold mjL; omega) t
  have tH : ∀ {σ1 σ2 : q_S}, Fr SDt LTm σ1 σ2 → Fr hi_ hi_ σ1 σ2 := fun f => f.mono (fun a i z => by unfold SDt SDm SCu at z; unfold hi_; omega) (fun a i z => by unfold LTm at z; unfold hi_; omega)
  have kH : ∀ {σ1 σ2 : q_S} {n : Nat}, Fr (SDk n) noL σ1 σ2 → Fr SDt LTm σ1 σ2 := fun f => f.mono (fun a i z => Or.inl (by unfold SDk at z; unfold SDm; omega)) (fun _ _ z => z.elim)
  have k2 : ∀ {σ1 σ2 : q_S} {n : Nat}, Fr (SDk n) noL σ1 σ2 → q_I σ1 159 2 = 0 → q_I σ2 159 2 = 0 := fun f h => by rw [f.2.2.1 _ _ (fun z => by unfold SDk at z; omega)]; exact h
  have stop : ∀ (l : Int32) σ1 k j, r = (k, j, r.2.2) → k ≠ 0 → Fr SDt LTm σ σ1 → q_I σ1 159 2 = 0 → FX σ1 (nI (flt tp k j)) → q_At G X_M_days (d + 1) 0 0 11 [some (.ref 159), some (.int l), none] [] σ1 Q := fun l σ1 k j er hk1 f1 t1 x1 => by
    refine v_M_days_11 (f1.sh hs) ⟨fun _ => ⟨fun z => absurd z x1.nle, fun _ => hv _ _ (Or.inr ⟨by rw [er]; exact hk1, by rw [x1.1, er], tH f1, tJ f1 t1⟩)⟩, fun z => absurd z x1.n0⟩
  have lp : ∀ n dy1 i σ1, M - i < n → MK σ1 tp M i → MYr σ1 dy1 → WY D dy1 → Fr SDt LTm σ σ1 → q_I σ1 159 2 = 0 → (r.1 = (dyA tp N n dy1 i).1 ∧ r.2.1 = (dyA tp N n dy1 i).2.1 ∧ ((dyA tp N n dy1 i).1 = 0 → r = dyA tp N n dy1 i)) → q_At G X_M_days (d + 1) 0 0 11 [some (.ref 159), some (.int (nI dy1.length)), none] [] σ1 Q := by
    intro n
    induction n with
    | zero => intro dy1 i σ1 h; omega
    | succ n ih =>
      intro dy1 i σ1 hn hK hY hWY f1 t1 hrr
      have hs1 := f1.sh hs
      have h0 := hK.2.2.1
      have hi := hK.2.2.2.1
      have hMb := hK.2.2.2.2
      have h24 := hWY.1
      have l0 : q_I σ1 159 8 ≤ 0 := by rw [h0]; exact Int32.le_refl _
      have h4 := tk_sort (tp := tp) i
      have e0 : (q_I σ1 161 i = 0) ↔ (tk tp i).1 = 0 := by rw [hK.me.1]; exact nI_eq (b := 0) (by omega) (by decide)
      have N1 : MNs σ1 0 N := by
        refine ⟨?_, fun k x hx => ?_⟩
        · rw [f1.2.2.1 _ _ (fun z => by unfold SDt SDm SCu at z; omega)]; exact hJ.2.1.1.1
        · rw [f1.2.2.2 _ _ (fun z => by unfold LTm at z; omega), f1.2.2.1 _ _ (fun z => by unfold SDt SDm SCu at z; omega)]
          exact hJ.2.1.2 k x hx
      rw [dyA] at hrr
      refine v_M_days_11 hs1 ⟨fun z => absurd h0 z, fun _ => ⟨i, hK.2.1, by omega, fun ce => ⟨fun _ => ?_, fun z => absurd l0 z⟩, fun ce => ?_⟩⟩
      · rw [e0] at ce
        rw [if_pos ce] at hrr
        have er : r = (0, i, dy1) := hrr.2.2 rfl
        refine up_ind (R := fun k => ∀ σ2, Fr (fun a i => a = 172 ∧ i < 110) noL σ1 σ2 → q_I σ2 172 0 = nI dy1.length → (∀ q, q < k → q_I σ2 172 (1 + q) = q_I σ1 172 (110 + q)) → q_At G X_M_days (d + 1) 0 0 130 [some (.ref 159), some (.int (nI dy1.length)), some (.int (nI k))] [] σ2 Q) (n := 4 * dy1.length) (fun σ2 f2 g0 g2 => ?_) (fun k hk2 ih2 σ2 f2 g0 g2 => ?_) 0 (Nat.zero_le _) _ (Fr.setI ⟨rfl, by decide⟩) q_I_eq (fun q h => absurd h (Nat.not_lt_zero q))
        · have e4 : (4 : Int32) * nI dy1.length = nI (4 * dy1.length) := by rw [show (4 : Int32) = nI 4 from rfl, pk_mul]
          refine v_M_days_130 (f2.sh hs1) ⟨fun _ => hv _ _ (Or.inl ?_), fun z => absurd (by rw [e4]; exact Int32.le_refl _) z⟩
          rw [er]
          have F2 : Fr hi_ hi_ σ σ2 := (tH f1).tr (f2.mono (fun a j z => by unfold hi_; omega) (fun _ _ z => z.elim))
          obtain ⟨c1, c2, c3, c4, c5, c6, c7, c8⟩ := tJ f1 t1
          have kI : ∀ a i, ¬ (a = 172) → q_I σ2 a i = q_I σ1 a i := fun a i z => f2.2.2.1 _ _ (fun y => z y.1)
          have kL : ∀ a i, q_L σ2 a i = q_L σ1 a i := fun a i => f2.2.2.2 _ _ (fun y => y)
          refine ⟨rfl, rfl, F2, hWY, c1.I (fun a i z => kI a i (by omega)), ⟨⟨by rw [kI _ _ (by decide)]; exact c2.1.1, fun k hk => by rw [kL]; exact c2.1.2 k hk⟩, fun k x hx => by rw [kL, kI _ _ (by decide)]; exact c2.2 k x hx⟩, c3.keep (fun j _ _ => kI _ _ (by decide)), c4.keep hw.2.2.2.2.2.1.1 (kI _ _ (by decide)) (fun j _ _ => kI _ _ (by decide)), c5.keep hw.2.2.2.2.2.2.1 (fun j => kI _ _ (by decide)) (fun j _ _ => kI _ _ (by decide)), c6.keep hw.2.2.2.2.2.2.2.1.1 (fun j _ _ => kI _ _ (by decide)), ⟨g0, fun k x hx => ?_⟩, ⟨by rw [kI _ _ (by decide)]; exact c8.1, fun j x hx => absurd hx (by simp)⟩⟩
          have hkl : k < dy1.length := (List.getElem?_eq_some_iff.mp hx).1
          obtain ⟨y1, y2, y3, y4⟩ := hY k x hx
          have o0 := g2 (4 * k) (by omega)
          have o1 := g2 (4 * k + 1) (by omega)
          have o2 := g2 (4 * k + 2) (by omega)
          have o3 := g2 (4 * k + 3) (by omega)
          rw [show 1 + (4 * k + 1) = 2 + 4 * k by omega, show 110 + (4 * k + 1) = 111 + 4 * k by omega] at o1
          rw [show 1 + (4 * k + 2) = 3 + 4 * k by omega, show 110 + (4 * k + 2) = 112 + 4 * k by omega] at o2
          rw [show 1 + (4 * k + 3) = 4 + 4 * k by omega, show 110 + (4 * k + 3) = 113 + 4 * k by omega] at o3
          rw [o0, o1, o2, o3]
          exact ⟨y1, y2, y3, y4⟩
        · have e4 : (4 : Int32) * nI dy1.length = nI (4 * dy1.length) := by rw [show (4 : Int32) = nI 4 from rfl, pk_mul]
          refine v_M_days_130 (f2.sh hs1) ⟨fun z => by rw [e4] at z; exact ge_not z hk2 (by omega), fun _ => ⟨110 + k, by rw [show (110 : Int32) = nI 110 from rfl, nI_add], by omega, 1 + k, by rw [show (1 : Int32) = nI 1 from rfl, nI_add], by omega, ?_⟩⟩
          rw [nI_1]
          refine ih2 _ (f2.tr (Fr.setI ⟨rfl, by omega⟩)) (by rw [q_I_ne (by omega)]; exact g0) (fun q hq2 => ?_)
          by_cases e : q = k
          · subst e
            rw [q_I_eq]
            exact f2.2.2.1 _ _ (fun z => by omega)
          · rw [q_I_ne (by omega)]
            exact g2 q (by omega)
      · rw [e0] at ce
        rw [if_neg ce] at hrr
        have him : i < M := tk_in hM hi ce
        refine M_wordHere_ok (f := 14) (m := 4) (by omega) (by decide) hs1 hK ⟨hs1, _, rfl, fun cw => ?_, fun cw => ?_⟩
        · have cw := (wh_ge (by decide)).mp cw
          have eac : acT (tk tp i) = nI ((tk tp i).2.2.1 - 14) := by unfold acT; rw [if_pos (by omega)]
          have hT : ¬ acT (tk tp i) = -1 := by rw [eac]; exact nm1 _ (by omega)
          have e24 : (nI dy1.length = 24) ↔ dy1.length = 24 := nI_eq (b := 24) (by omega) (by decide)
          refine ⟨fun c24 => ?_, fun c24 => ?_⟩
          · rw [e24] at c24
            rw [whT_1 cw, show (4 : Int32) * nI dy1.length = nI (4 * dy1.length) by rw [show (4 : Int32) = nI 4 from rfl, pk_mul], show (111 : Int32) + nI (4 * dy1.length) = nI (111 + 4 * dy1.length) by rw [show (111 : Int32) = nI 111 from rfl, nI_add], hK.nx]
            refine ⟨110 + 4 * dy1.length, by rw [show (110 : Int32) = nI 110 from rfl, nI_add], by omega, ?_⟩
            have f2 : Fr (SDk dy1.length) noL σ1 (q_setI (q_setI σ1 159 7 (nI (i + 1))) 172 (110 + 4 * dy1.length) (nI ((tk tp i).2.2.1 - 14))) := (S78_d (Fr.setI ⟨rfl, Or.inl rfl⟩)).tr (Fr172 ⟨by omega, by omega⟩)
            have hs2 := f2.sh hs1
            refine M_day_ok (by omega) htp hM hs2 (hK.at him).w172 (N1.fr (Or.inl rfl) f2 (fun a j z => by unfold SDk at z; omega) (fun _ _ z => z.elim)) hk (hY.fr f2 (fun a j z => by unfold SDk at z; omega)) (by omega) hT q_I_eq (fun σ3 hV => ⟨hV.1.sh hs2, rfl, ?_⟩)
            have hs3 := hV.1.sh hs2
            have F3 := (f1.tr (kH f2)).tr (kH hV.1)
            have t3 := k2 hV.1 (k2 f2 t1)
            rcases hV.2 with ⟨r0, k3, Y3⟩ | ⟨r0, x3⟩
            · obtain ⟨x1, x2, x3⟩ := WY_A hM hi hw.1 hN hWY r0
              rw [if_pos r0] at hrr
              have el : (dlA tp N dy1 i).2.2.length = dy1.length + 1 := by
                unfold dlA at r0 ⊢
                rw [if_neg hT, if_neg (by omega)] at r0 ⊢
                by_cases q1 : (tk tp i).2.2.1 = 14
                · rw [if_pos q1] at r0 ⊢
                  by_cases q2 : nmF (tk tp (i + 1)) 0 9999 = 0
                  · rw [if_pos q2]; exact List.length_append
                  · rw [if_neg q2] at r0; exact absurd r0 q2
                · rw [if_neg q1] at r0 ⊢
                  by_cases q2 : (twF tp N 20 (i + 1)).1 = 0
                  · rw [if_pos q2] at r0 ⊢
                    by_cases q3 : (tk tp i).2.2.1 = 15
                    · rw [if_pos q3]; exact List.length_append
                    · rw [if_neg q3] at r0 ⊢
                      by_cases q4 : nmF (tk tp (i + 3)) 1 999 = 0
                      · rw [if_pos q4]; exact List.length_append
                      · rw [if_neg q4] at r0; exact absurd r0 q4
                  · rw [if_neg q2] at r0; exact absurd r0 q2
              refine M_takeSign_ok (c := 59) (by omega) (by decide) htp hM hs3 k3 (fun c3 σ4 f4 k4 => ⟨f4.sh hs3, rfl, ?_⟩) (fun c3 σ4 f4 x4 => ⟨f4.sh hs3, rfl, ?_⟩)
              · rw [if_pos c3] at hrr
                rw [nI_1, ← el]
                exact ih _ _ σ4 (by have := k4.2.2.2.1; omega) k4 (Y3.fr f4 (fun a j z => by unfold S78 at z; omega)) x1 (F3.tr (kH (S78_d (n := 0) f4))) (k2 (S78_d (n := 0) f4) t3) hrr
              · rw [if_neg c3] at hrr
                exact stop _ σ4 1 _ (Prod.ext hrr.1 (Prod.ext hrr.2.1 rfl)) (by decide) (F3.tr (kH (S78_d (n := 0) f4))) (k2 (S78_d (n := 0) f4) t3) x4
            · rw [if_neg r0] at hrr
              exact M_takeSign_no (by omega) hs3 x3 ⟨hs3, rfl, stop _ σ3 _ _ (Prod.ext hrr.1 (Prod.ext hrr.2.1 rfl)) r0 F3 t3 x3⟩
          · rw [e24] at c24
            have er : dlA tp N dy1 i = (5, i, dy1) := by unfold dlA; rw [if_neg hT, if_pos (by omega)]
            rw [er, if_neg (show ¬ (5 : Nat) = 0 by decide)] at hrr
            refine M_wrong_ok (k := 5) hs1 hK hl (by decide) (by decide) (fun σ2 f2 x2 => ⟨f2.sh hs1, rfl, ?_⟩)
            exact M_takeSign_no (by omega) (f2.sh hs1) x2 ⟨f2.sh hs1, rfl, stop _ σ2 5 i (Prod.ext hrr.1 (Prod.ext hrr.2.1 rfl)) (by decide) (f1.tr (kH (S78_d (n := 0) f2))) (k2 (S78_d (n := 0) f2) t1) x2⟩
        · have cw : ¬ _ := fun z => cw ((wh_ge (by decide)).mpr z)
          have er : dlA tp N dy1 i = (1, i, dy1) := by
            unfold dlA
            rw [if_pos]
            unfold acT
            rw [if_neg (by omega)]
          rw [er, if_neg (show ¬ (1 : Nat) = 0 by decide)] at hrr
          refine M_wrong_ok (k := 1) hs1 hK hl (by decide) (by decide) (fun σ2 f2 x2 => ⟨f2.sh hs1, rfl, ?_⟩)
          exact M_takeSign_no (by omega) (f2.sh hs1) x2 ⟨f2.sh hs1, rfl, stop _ σ2 1 i (Prod.ext hrr.1 (Prod.ext hrr.2.1 rfl)) (by decide) (f1.tr (kH (S78_d (n := 0) f2))) (k2 (S78_d (n := 0) f2) t1) x2⟩
  have hTp : MTp (q_setI σ 159 0 0) tp := ⟨by rw [q_I_ne (by decide)]; exact hJ.2.2.2.2.2.2.2.1, fun i x hx => by rw [q_I_ne (by omega)]; exact hJ.2.2.2.2.2.2.2.2 i x hx⟩
  have fT : Fr SDt LTm σ (q_setI σ 159 0 0) := Fr.setI (Or.inr (Or.inr ⟨rfl, rfl⟩))
  refine v_M_days_0 hs (M_cut_ok hM hMl (by omega) (fT.sh hs) htp hTp (fun k hk => hJ.2.1.1.2 k hk) (fun σ2 f2 C2 a2 b2 t2 => ⟨f2.sh (fT.sh hs), rfl, ?_⟩))
  have F2 : Fr SDt LTm σ σ2 := fT.tr (f2.mono (fun a i z => Or.inr (Or.inl z)) (fun a i z => Or.inr z))
  exact lp (tp.length + 1) [] 0 σ2 (by omega) ⟨C2, a2, b2, Nat.zero_le _, by omega⟩ (fun k x hx => absurd hx (by simp)) ⟨Nat.zero_le _, fun x hx => absurd hx List.not_mem_nil⟩ F2 t2 ⟨by rw [hr], by rw [hr], fun _ => hr.symm⟩
end MDAYS
