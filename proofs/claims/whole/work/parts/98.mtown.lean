-- the reference begins anew, reads towns
def SBm : Nat → Nat → Prop := fun a i => a = 173 ∨ a = 174 ∨ a = 177 ∨ (a = 175 ∧ i < 51) ∨ (a = 172 ∧ i = 0) ∨ (a = 159 ∧ i = 25) ∨ a = 176
def STm : Nat → Nat → Prop := fun a i => SRl a i ∨ SCu a i ∨ (a = 159 ∧ i = 0)
def LTm : Nat → Nat → Prop := fun a _ => a = 169 ∨ a = 163
section MTOWN
variable {G : q_G} {d : Nat} {σ σ' σ1 : q_S} {Q : Option Value → q_S → Prop} {i M c : Nat} {s : q_ts} {D : Nat → Nat} {P : Nat → List Int32} {N : q_nm} {hm : Nat → Nat} {L : Nat → Int32} {un : List q_lf} {mk : Nat → Option (q_lf × q_tl)} {tl : q_tl} {dy : q_dy} {tp : List Nat}
theorem M_begins_ok (hd : 3 ≤ d) (hs : q_Sh σ) (hD : WfD D) (hP : WfP P) (hT : MT0 σ D P) (hq : ∀ σ', Fr SBm noL σ σ' → MT σ' D P → ML σ' 0 (stL D) → q_I σ' 175 50 = 0 → q_I σ' 172 0 = 0 → q_I σ' 159 25 = 0 → (∀ m, m < 4 → q_I σ' 176 m = 0) → Q none σ') : q_Call G d 0 0 X_M_begins [.ref 159] σ Q := by
  obtain ⟨d, rfl⟩ : ∃ d', d = d' + 2 + 1 := ⟨d - 3, by omega⟩
  refine q_cv0 (P := fun σ' => Fr SBm noL σ σ' ∧ MT σ' D P ∧ ML σ' 0 (stL D) ∧ q_I σ' 175 50 = 0 ∧ q_I σ' 172 0 = 0 ∧ q_I σ' 159 25 = 0 ∧ ∀ m, m < 4 → q_I σ' 176 m = 0) (by decide +kernel) (Nat.le_of_ble_eq_true rfl) (fun Q hq => ?_) (fun σ' h => hq σ' h.1 h.2.1 h.2.2.1 h.2.2.2.1 h.2.2.2.2.1 h.2.2.2.2.2.1 h.2.2.2.2.2.2)
  refine v_M_begins_0 hs (M_noises_ok hs hD hP hT (fun σ1 f1 T1 => ⟨f1.sh hs, rfl, ?_⟩))
  have hs1 := f1.sh hs
  refine M_starts_ok (b := 0) (d := d + 1) hs1 hD T1.1 (by decide) (fun σ2 f2 L2 => ⟨f2.sh hs1, rfl, ?_⟩)
  have F2 : Fr SBm noL σ σ2 := (f1.mono (fun a j z => by unfold Sn at z; unfold SBm; omega) (fun _ _ z => z)).tr (f2.mono (fun a j z => by unfold SMb at z; unfold SBm; omega) (fun _ _ z => z))
  have T2 := T1.fr f2 (fun a j z => by unfold SMb at z; omega)
  have f3 : Fr (fun a j => (a = 175 ∧ j = 50) ∨ (a = 172 ∧ j = 0) ∨ (a = 159 ∧ j = 25)) noL σ2 (q_setI (q_setI (q_setI σ2 175 50 0) 172 0 0) 159 25 0) := ((Fr.setI (Or.inl ⟨rfl, rfl⟩)).tr (Fr.setI (Or.inr (Or.inl ⟨rfl, rfl⟩)))).tr (Fr.setI (Or.inr (Or.inr ⟨rfl, rfl⟩)))
  have T3 := T2.fr f3 (fun a j z => by omega)
  have L3 := L2.keep (σ' := q_setI (q_setI (q_setI σ2 175 50 0) 172 0 0) 159 25 0) (fun j b1 b2 => f3.2.2.1 _ _ (fun z => by omega))
  have F3 : Fr SBm noL σ (q_setI (q_setI (q_setI σ2 175 50 0) 172 0 0) 159 25 0) := F2.tr (f3.mono (fun a j z => by unfold SBm; omega) (fun _ _ z => z))
  refine up_ind (R := fun k => ∀ σ3, Fr (fun a _ => a = 176) noL (q_setI (q_setI (q_setI σ2 175 50 0) 172 0 0) 159 25 0) σ3 → (∀ m, m < k → q_I σ3 176 m = 0) → q_At G X_M_begins (d + 2 + 1) 0 0 31 [some (.ref 159), some (.int (nI k))] [] σ3 Q) (n := 4) (fun σ3 f4 g4 => ?_) (fun k hk ih σ3 f4 g4 => ?_) 0 (Nat.zero_le _) _ Fr.rf (fun m hm => absurd hm (Nat.not_lt_zero m))
  · have F4 := F3.tr (f4.mono (SI' := SBm) (SL' := noL) (fun a j z => by unfold SBm; omega) (fun _ _ z => z))
    refine v_M_begins_31 (F4.sh hs) ⟨fun _ => hq _ ⟨F4, T3.fr f4 (fun a j z => by omega), L3.keep (fun j b1 b2 => f4.2.2.1 _ _ (fun z => by omega)), ?_, ?_, ?_, g4⟩, fun z => absurd (by decide) z⟩
    · rw [f4.2.2.1 _ _ (fun z => by omega), q_I_ne (by decide), q_I_ne (by decide), q_I_eq]
    · rw [f4.2.2.1 _ _ (fun z => by omega), q_I_ne (by decide), q_I_eq]
    · rw [f4.2.2.1 _ _ (fun z => by omega), q_I_eq]
  · have F4 := F3.tr (f4.mono (SI' := SBm) (SL' := noL) (fun a j z => by unfold SBm; omega) (fun _ _ z => z))
    refine v_M_begins_31 (F4.sh hs) ⟨fun z => ge_not (a := k) (b := 4) z hk (by decide), fun _ => ⟨k, rfl, hk, ?_⟩⟩
    rw [nI_1]
    refine ih _ (f4.tr (Fr.setI rfl)) (fun m hm => ?_)
    by_cases e : m = k
    · subst e
      rw [q_I_eq]
      rfl
    · rw [q_I_ne (by omega)]
      exact g4 m (by omega)
theorem M_stands_ok {b : Nat} (hb : b + 200 ≤ 400) (hs : q_Sh σ) (hq : ∀ σ', Fr (fun a i => a = 165 ∧ b ≤ i ∧ i < b + 200) noL σ σ' → (∀ j, j < 200 → ¬ (5 ≤ j ∧ j < 8) → q_I σ' 165 (b + j) = 0) → (∀ w, w < 3 → q_I σ' 165 (b + 5 + w) = -1) → Q none σ') : q_Call G d 0 0 X_M_standsAsAlways [.ref 159, .int (nI b)] σ Q := by
  refine q_cv0 (P := fun σ' => Fr (fun a i => a = 165 ∧ b ≤ i ∧ i < b + 200) noL σ σ' ∧ (∀ j, j < 200 → ¬ (5 ≤ j ∧ j < 8) → q_I σ' 165 (b + j) = 0) ∧ ∀ w, w < 3 → q_I σ' 165 (b + 5 + w) = -1) (by decide +kernel) (Nat.le_of_ble_eq_true rfl) (fun Q hq => ?_) (fun σ' h => hq σ' h.1 h.2.1 h.2.2)
  refine v_M_standsAsAlways_0 hs ?_
  refine up_ind (R := fun k => ∀ σ1, Fr (fun a i => a = 165 ∧ b ≤ i ∧ i < b + 200) noL σ σ1 → (∀ j, j < k → q_I σ1 165 (b + j) = 0) → q_At G X_M_standsAsAlways d 0 0 2 [some (.ref 159), some (.int (nI b)), some (.int (nI k))] [] σ1 Q) (n := 200) (fun σ1 f1 g1 => ?_) (fun k hk ih σ1 f1 g1 => ?_) 0 (Nat.zero_le _) σ Fr.rf (fun j hj => absurd hj (Nat.not_lt_zero j))
  · refine v_M_standsAsAlways_2 (f1.sh hs) ⟨fun _ => ?_, fun z => absurd (by decide) z⟩
    refine up_ind (R := fun k => ∀ σ2, Fr (fun a i => a = 165 ∧ b ≤ i ∧ i < b + 200) noL σ σ2 → (∀ j, j < 200 → ¬ (5 ≤ j ∧ j < 8) → q_I σ2 165 (b + j) = 0) → (∀ w, w < k → q_I σ2 165 (b + 5 + w) = -1) → q_At G X_M_standsAsAlways d 0 0 26 [some (.ref 159), some (.int (nI b)), some (.int (nI k))] [] σ2 Q) (n := 3) (fun σ2 f2 g2 h2 => ?_) (fun k hk ih σ2 f2 g2 h2 => ?_) 0 (Nat.zero_le _) σ1 f1 (fun j h _ => g1 j h) (fun w h => absurd h (Nat.not_lt_zero w))
    · exact v_M_standsAsAlways_26 (f2.sh hs) ⟨fun _ => hq _ ⟨f2, g2, h2⟩, fun z => absurd (by decide) z⟩
    · refine v_M_standsAsAlways_26 (f2.sh hs) ⟨fun z => ge_not (a := k) (b := 3) z hk (by decide), fun _ => ⟨b + 5 + k, by rw [show (5 : Int32) = nI 5 from rfl, nI_add, nI_add], by omega, ?_⟩⟩
      rw [nI_1]
      refine ih _ (f2.tr (Fr.setI ⟨rfl, by omega, by omega⟩)) (fun j h1 h3 => by rw [q_I_ne (by omega)]; exact g2 j h1 h3) (fun w hw => ?_)
      by_cases e : w = k
      · subst e
        exact q_I_eq
      · rw [q_I_ne (by omega)]
        exact h2 w (by omega)
  · refine v_M_standsAsAlways_2 (f1.sh hs) ⟨fun z => ge_not (a := k) (b := 200) z hk (by decide), fun _ => ⟨b + k, by rw [nI_add], by omega, ?_⟩⟩
    rw [nI_1]
    refine ih _ (f1.tr (Fr.setI ⟨rfl, by omega, by omega⟩)) (fun j hj => ?_)
    by_cases e : j = k
    · subst e
      exact q_I_eq
    · rw [q_I_ne (by omega)]
      exact g1 j (by omega)
-- with a fault all stays, but the tape is gone
theorem MJ.rd {SI SL : Nat → Nat → Prop} (hw : WJ D P N hm L un mk tl dy tp) (hJ : MJ σ D P N L un mk tl dy tp) (hf : Fr SI SL σ σ') (hI : ∀ a i, SI a i → ¬ (a = 159 ∧ i = 2) → ¬ mj a i) (hL : ∀ a i, SL a i → ¬ mjL a i) (h2 : q_I σ' 159 2 = 0) : MJ σ' D P N L un mk tl dy [] := by
  have f1 : Fr (fun a i => SI a i ∧ ¬ (a = 159 ∧ i = 2)) SL σ (q_setI σ' 159 2 (q_I σ 159 2)) := by
    refine ⟨hf.1, hf.2.1, fun a i z => ?_, fun a i z => hf.2.2.2 a i z⟩
    by_cases e : a = 159 ∧ i = 2
    · rw [e.1, e.2, q_I_eq]
    · rw [q_I_ne e]
      exact hf.2.2.1 a i (fun y => z ⟨y, e⟩)
  have J1 := hJ.fr hw f1 (fun a i z => hI a i z.1 z.2) hL
  have f2 : Fr SMp noL (q_setI σ' 159 2 (q_I σ 159 2)) σ' := ⟨rfl, rfl, fun a i z => by rw [q_I_ne (fun e => z (Or.inr e))], fun _ _ _ => rfl⟩
  exact J1.tape hw f2 ⟨h2, fun i x hx => absurd hx (by simp)⟩
theorem MTl.nil {b : Nat} (h : q_I σ 175 (b + 50) = 0) : MTl σ b [] := ⟨h, fun k x hx => absurd hx (by simp)⟩
def SCp (c n : Nat) : Nat → Nat → Prop := fun a i => (a = 165 ∧ i < 200) ∨ ((a = 166 ∨ a = 167) ∧ i < c) ∨ (a = 170 ∧ i < n)
def LCp (n : Nat) : Nat → Nat → Prop := fun a i => a = 168 ∧ i < n
-- what was read becomes what stands
theorem M_copy_ok (hc : c ≤ 1000) (hN : s.2.2.2.length ≤ 12) (hs : q_Sh σ) (hR : MR σ s c) (hq : ∀ σ', Fr (SCp 1100 12) (LCp 12) σ σ' → MT0 σ' s.1 s.2.1 → MNs σ' 1 s.2.2.2 → (∀ k x, s.2.2.2[k]? = some x → q_L σ' 168 k = lN (e37 x.1) ∧ q_I σ' 170 k = nI x.2) → q_At G X_M_town d 0 0 151 [some (.ref 159), some (.int (nI s.2.2.2.length))] [] σ' Q) (hd : 1 ≤ d) : q_At G X_M_town d 0 0 72 [some (.ref 159), some (.int 0)] [] σ Q := by
  obtain ⟨d, rfl⟩ : ∃ d', d = d' + 1 := ⟨d - 1, by omega⟩
  -- names
  have ln : ∀ σ2, Fr (SCp 1100 0) noL σ σ2 → MT0 σ2 s.1 s.2.1 → q_At G X_M_town (d + 1) 0 0 151 [some (.ref 159), some (.int (nI 0))] [] σ2 Q := fun σ2 f2 T2 => by
    have N2 : MNs σ2 1 s.2.2.2 := hR.2.2.1.fr (Or.inr rfl) f2 (fun a j z => by unfold SCp at z; omega) (fun _ _ z => z.elim)
    refine up_ind (R := fun k => ∀ σ3, Fr (SCp 0 12) (LCp 12) σ2 σ3 → (∀ a i, a = 165 → q_I σ3 a i = q_I σ2 a i) → (∀ q x, q < k → s.2.2.2[q]? = some x → q_L σ3 168 q = lN (e37 x.1) ∧ q_I σ3 170 q = nI x.2) → q_At G X_M_town (d + 1) 0 0 151 [some (.ref 159), some (.int (nI k))] [] σ3 Q) (n := s.2.2.2.length) (fun σ3 f3 z3 g3 => ?_) (fun k hk ih σ3 f3 z3 g3 => ?_) 0 (Nat.zero_le _) σ2 Fr.rf (fun _ _ _ => rfl) (fun q x h => absurd h (Nat.not_lt_zero q))
    · refine hq σ3 ((f2.mono (fun a j z => by unfold SCp at z ⊢; omega) (fun _ _ z => z.elim)).tr (f3.mono (fun a j z => by unfold SCp at z ⊢; omega) (fun _ _ z => z))) (T2.keep (fun i _ => z3 165 i rfl) (fun i => f3.2.2.1 _ _ (fun z => by unfold SCp at z; omega)) (fun i => f3.2.2.1 _ _ (fun z => by unfold SCp at z; omega))) ?_ (fun k x hx => g3 k x (List.getElem?_eq_some_iff.mp hx).1 hx)
      refine ⟨by rw [f3.2.2.1 _ _ (fun z => by unfold SCp at z; omega)]; exact N2.1, fun k x hx => ?_⟩
      rw [f3.2.2.2 _ _ (fun z => by unfold LCp at z; omega), f3.2.2.1 _ _ (fun z => by unfold SCp at z; omega)]
      exact N2.2 k x hx
    · have hx : s.2.2.2[k]? = some s.2.2.2[k] := List.getElem?_eq_getElem hk
      have e19 : q_I σ3 159 19 = nI s.2.2.2.length := by rw [f3.2.2.1 _ _ (fun z => by unfold SCp at z; omega)]; exact N2.1
      refine v_M_town_151 (f3.sh (f2.sh hs)) ⟨fun z => by rw [e19] at z; exact ge_not z hk (by omega), fun _ => ⟨k, rfl, by omega, k, rfl, by omega, k, rfl, by omega, k, rfl, by omega, ?_⟩⟩
      rw [nI_1]
      have eL : q_L σ3 169 k = lN (e37 s.2.2.2[k].1) := by rw [f3.2.2.2 _ _ (fun z => by unfold LCp at z; omega)]; exact (N2.2 k _ hx).1
      have eI : q_I (q_setL σ3 168 k (q_L σ3 169 k)) 171 k = nI s.2.2.2[k].2 := by rw [q_I_setL, f3.2.2.1 _ _ (fun z => by unfold SCp at z; omega)]; exact (N2.2 k _ hx).2
      have fA : Fr (SCp 0 12) (LCp 12) σ3 (q_setL σ3 168 k (q_L σ3 169 k)) := Fr.setL ⟨rfl, by omega⟩
      refine ih _ (f3.tr (fA.tr (Fr.setI (Or.inr (Or.inr ⟨rfl, by omega⟩))))) (fun a i z => by rw [q_I_ne (by omega)]; exact z3 a i z) (fun q x hq2 hx2 => ?_)
      by_cases e : q = k
      · subst e
        rw [hx] at hx2
        have hx2 := Option.some.inj hx2
        rw [q_L_setI, q_L_eq, q_I_eq, eI, eL, hx2]
        exact ⟨rfl, rfl⟩
      · rw [q_L_setI, q_L_ne (by omega), q_I_ne (by omega)]
        exact g3 q x (by omega) hx2
  -- codes
  have lc : ∀ σ2, Fr (SCp 0 0) noL σ σ2 → (∀ j, j < 200 → q_I σ2 165 j = q_I σ 165 (200 + j)) → q_At G X_M_town (d + 1) 0 0 103 [some (.ref 159), some (.int (nI 0))] [] σ2 Q := fun σ2 f2 g2 => by
    have e13 : ∀ {σ3 : q_S}, Fr (SCp 1100 0) noL σ2 σ3 → q_I σ3 159 13 = nI c := fun f => by
      rw [f.2.2.1 _ _ (fun z => by unfold SCp at z; omega), f2.2.2.1 _ _ (fun z => by unfold SCp at z; omega)]
      exact hR.2.2.2
    refine up_ind (R := fun k => ∀ σ3, Fr (SCp 1100 0) noL σ2 σ3 → (∀ i, q_I σ3 165 i = q_I σ2 165 i) → (∀ q, q < k → q_I σ3 166 q = q_I σ 166 (1100 + q) ∧ q_I σ3 167 q = q_I σ 167 (1100 + q)) → q_At G X_M_town (d + 1) 0 0 103 [some (.ref 159), some (.int (nI k))] [] σ3 Q) (n := c) (fun σ3 f3 z3 g3 => ?_) (fun k hk ih σ3 f3 z3 g3 => ?_) 0 (Nat.zero_le _) σ2 Fr.rf (fun _ => rfl) (fun q h => absurd h (Nat.not_lt_zero q))
    · have F3 : Fr (SCp 1100 0) noL σ σ3 := (f2.mono (fun a j z => by unfold SCp at z ⊢; omega) (fun _ _ z => z)).tr f3
      refine v_M_town_103 (F3.sh hs) ⟨fun _ => ln σ3 F3 ?_, fun z => absurd (by rw [e13 f3]; exact Int32.le_refl _) z⟩
      refine ⟨fun j j1 j2 => by rw [z3, g2 j j1]; exact hR.1 j j1 j2, fun w hw => ?_⟩
      rw [z3, g2 _ (by omega), show 200 + (5 + w) = 205 + w by omega]
      rcases hR.2.1 w hw with ⟨a1, a2, a3⟩ | ⟨a1, a, a2, a3, a4, a5⟩
      · exact Or.inl ⟨a2, a3⟩
      · refine Or.inr ⟨a, a2, fun j hj => ?_, ?_, by omega⟩
        · rw [(g3 (a + j) (by omega)).1, (g3 (a + j) (by omega)).2]
          exact a4 j hj
        · rw [(g3 _ a3).1]
          exact a5
    · have F3 : Fr (SCp 1100 0) noL σ σ3 := (f2.mono (fun a j z => by unfold SCp at z ⊢; omega) (fun _ _ z => z)).tr f3
      have e1100 : (1100 : Int32) + nI k = nI (1100 + k) := by rw [show (1100 : Int32) = nI 1100 from rfl, nI_add]
      refine v_M_town_103 (F3.sh hs) ⟨fun z => by rw [e13 f3] at z; exact ge_not z hk (by omega), fun _ => ⟨1100 + k, e1100, by omega, k, rfl, by omega, 1100 + k, e1100, by omega, k, rfl, by omega, ?_⟩⟩
      rw [nI_1]
      refine ih _ (f3.tr ((Fr.setI (Or.inr (Or.inl ⟨Or.inl rfl, by omega⟩))).tr (Fr.setI (Or.inr (Or.inl ⟨Or.inr rfl, by omega⟩))))) (fun i => by rw [q_I_ne (by omega), q_I_ne (by omega)]; exact z3 i) (fun q hq2 => ?_)
      have o6 : q_I σ3 166 (1100 + k) = q_I σ 166 (1100 + k) := F3.2.2.1 _ _ (fun z => by unfold SCp at z; omega)
      have o7 : q_I σ3 167 (1100 + k) = q_I σ 167 (1100 + k) := F3.2.2.1 _ _ (fun z => by unfold SCp at z; omega)
      by_cases e : q = k
      · subst e
        rw [q_I_ne (by omega), q_I_eq, q_I_eq, q_I_ne (by omega), o6, o7]
        exact ⟨rfl, rfl⟩
      · rw [q_I_ne (by omega), q_I_ne (by omega), q_I_ne (by omega), q_I_ne (by omega)]
        exact g3 q (by omega)
  refine up_ind (R := fun k => ∀ σ3, Fr (SCp 0 0) noL σ σ3 → (∀ q, q < k → q_I σ3 165 q = q_I σ 165 (200 + q)) → q_At G X_M_town (d + 1) 0 0 72 [some (.ref 159), some (.int (nI k))] [] σ3 Q) (n := 200) (fun σ3 f3 g3 => ?_) (fun k hk ih σ3 f3 g3 => ?_) 0 (Nat.zero_le _) σ Fr.rf (fun q h => absurd h (Nat.not_lt_zero q))
  · exact v_M_town_72 (f3.sh hs) ⟨fun _ => lc σ3 f3 g3, fun z => absurd (by decide) z⟩
  · refine v_M_town_72 (f3.sh hs) ⟨fun z => ge_not (a := k) (b := 200) z hk (by decide), fun _ => ⟨200 + k, by rw [show (200 : Int32) = nI 200 from rfl, nI_add], by omega, k, rfl, by omega, ?_⟩⟩
    rw [nI_1]
    refine ih _ (f3.tr (Fr.setI (Or.inl ⟨rfl, hk⟩))) (fun q hq2 => ?_)
    by_cases e : q = k
    · subst e
      rw [q_I_eq]
      exact f3.2.2.1 _ _ (fun z => by unfold SCp at z; omega)
    · rw [q_I_ne (by omega)]
      exact g3 q (by omega)
end MTOWN
