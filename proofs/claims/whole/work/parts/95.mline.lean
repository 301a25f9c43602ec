-- the reference's town in telling
def MR (σ : q_S) (s : q_ts) (c : Nat) : Prop := (∀ j, j < 200 → ¬ (5 ≤ j ∧ j < 8) → q_I σ 165 (200 + j) = nI (s.1 j)) ∧ (∀ w, w < 3 → (s.2.2.1 w = false ∧ q_I σ 165 (205 + w) = -1 ∧ s.2.1 w = dflt w) ∨ (s.2.2.1 w = true ∧ ∃ a, q_I σ 165 (205 + w) = nI a ∧ a + (s.2.1 w).length < c ∧ ME σ w a (s.2.1 w) ∧ q_I σ 166 (1100 + (a + (s.2.1 w).length)) = 0)) ∧ MNs σ 1 s.2.2.2 ∧ q_I σ 159 13 = nI c
def SRl : Nat → Nat → Prop := fun a i => (a = 165 ∧ 200 ≤ i) ∨ ((a = 166 ∨ a = 167) ∧ 1100 ≤ i) ∨ a = 171 ∨ (a = 159 ∧ (i = 7 ∨ i = 8 ∨ i = 13 ∨ i = 19 ∨ i = 20))
def LRl : Nat → Nat → Prop := fun a _ => a = 169
def MlP (tp : List Nat) (M : Nat) (σ : q_S) (s : q_ts) (c i : Nat) : Prop := q_Sh σ ∧ MK σ tp M i ∧ MR σ s c ∧ c ≤ i
def MlV (tp : List Nat) (M : Nat) (σ : q_S) (r : q_lr) (σ' : q_S) : Prop := Fr SRl LRl σ σ' ∧ ((r.1 = 0 ∧ MK σ' tp M r.2.1 ∧ ∃ c', MR σ' r.2.2 c' ∧ c' ≤ r.2.1) ∨ (r.1 ≠ 0 ∧ FX σ' (nI (flt tp r.1 r.2.1))))
section MLINE
variable {G : q_G} {d : Nat} {σ σ' σ1 : q_S} {Q : Option Value → q_S → Prop} {tp : List Nat} {i M c : Nat} {s : q_ts}
theorem MR.fr {SI SL : Nat → Nat → Prop} (h : MR σ s c) (hf : Fr SI SL σ σ') (hI : ∀ a j, SI a j → ¬ ((a = 165 ∧ 200 ≤ j) ∨ ((a = 166 ∨ a = 167) ∧ 1100 ≤ j) ∨ a = 170 ∨ a = 171 ∨ (a = 159 ∧ (j = 13 ∨ j = 18 ∨ j = 19)))) (hL : ∀ a j, SL a j → ¬ (a = 168 ∨ a = 169)) : MR σ' s c := by
  obtain ⟨h1, h2, h3, h4⟩ := h
  refine ⟨fun j a b => by rw [hf.2.2.1 _ _ (fun z => hI _ _ z (by omega))]; exact h1 j a b, fun w hw => ?_, h3.fr (Or.inr rfl) hf (fun a j z y => hI a j z (by omega)) hL, by rw [hf.2.2.1 _ _ (fun z => hI _ _ z (by omega))]; exact h4⟩
  rcases h2 w hw with ⟨a1, a2, a3⟩ | ⟨a1, a, a2, a3, a4, a5⟩
  · exact Or.inl ⟨a1, by rw [hf.2.2.1 _ _ (fun z => hI _ _ z (by omega))]; exact a2, a3⟩
  · exact Or.inr ⟨a1, a, by rw [hf.2.2.1 _ _ (fun z => hI _ _ z (by omega))]; exact a2, a3, a4.fr hf (fun b j z y => hI b j z (by omega)), by rw [hf.2.2.1 _ _ (fun z => hI _ _ z (by omega))]; exact a5⟩
theorem MR.s78 (h : MR σ s c) (hf : Fr S78 noL σ σ') : MR σ' s c := h.fr hf (fun a j z => by unfold S78 at z; omega) (fun _ _ z => z.elim)
theorem MR.upd {j v : Nat} (h : MR σ s c) (hj : j < 200) (hn : ¬ (5 ≤ j ∧ j < 8)) : MR (q_setI σ 165 (200 + j) (nI v)) (updN s.1 j v, s.2) c := by
  obtain ⟨h1, h2, h3, h4⟩ := h
  have f : Fr (fun a k => a = 165 ∧ k = 200 + j) noL σ (q_setI σ 165 (200 + j) (nI v)) := Fr.setI ⟨rfl, rfl⟩
  refine ⟨fun k a b => ?_, fun w hw => ?_, h3.fr (Or.inr rfl) f (fun a k z => by omega) (fun _ _ z => z.elim), by rw [q_I_ne (by omega)]; exact h4⟩
  · show _ = nI (updN s.1 j v k)
    by_cases e : k = j
    · subst e
      rw [q_I_eq, updN_at]
    · rw [q_I_ne (by omega), updN_ne e]
      exact h1 k a b
  · rcases h2 w hw with ⟨a1, a2, a3⟩ | ⟨a1, a, a2, a3, a4, a5⟩
    · exact Or.inl ⟨a1, by rw [q_I_ne (by omega)]; exact a2, a3⟩
    · exact Or.inr ⟨a1, a, by rw [q_I_ne (by omega)]; exact a2, a3, a4.fr f (fun b k z => by omega), by rw [q_I_ne (by omega)]; exact a5⟩
theorem S78_l (hf : Fr S78 noL σ σ') : Fr SRl LRl σ σ' := hf.mono (fun a j z => by unfold S78 at z; unfold SRl; omega) (fun _ _ z => z.elim)
theorem Fr165 {j : Nat} {v : Int32} (h : 200 ≤ j) : Fr SRl LRl σ (q_setI σ 165 j v) := Fr.setI (Or.inl ⟨rfl, h⟩)
theorem MK.w165 {j : Nat} {v : Int32} (h : MK σ tp M i) : MK (q_setI σ 165 j v) tp M i := h.fr (SI := fun a _ => a = 165) (SL := noL) (Fr.setI rfl) (fun a k z => by omega) (fun _ _ z => z.elim)
theorem FX.w165 {j : Nat} {v x : Int32} (h : FX σ x) : FX (q_setI σ 165 j v) x := h.fr (SI := fun a _ => a = 165) (SL := noL) (Fr.setI rfl) (fun a k z => by omega)
theorem MlV.bad {k j : Nat} {r : q_lr} (e : r = (k, j, s)) (hk : k ≠ 0) (hf : Fr SRl LRl σ σ') (h : FX σ' (nI (flt tp k j))) : MlV tp M σ r σ' := by
  rw [e]
  exact ⟨hf, Or.inr ⟨hk, h⟩⟩
theorem WS.okN (h : WS s) : okN s.2.2.2 := h.2.2.1.okN h.1
theorem lkI_neg {N : q_nm} {l : List Nat} (hk : okN N) : (lkI (lkN N l) < 0) ↔ ¬ (lkN N l).isSome = true := by
  cases o : lkN N l with
  | none => exact ⟨fun _ => by decide, fun _ => by show (-1 : Int32) < 0; decide⟩
  | some u =>
    have hu : u < 26 := by
      unfold lkN at o
      cases e : N.find? (fun x => decide (x.1 = l)) with
      | none => rw [e] at o; exact absurd o (by simp)
      | some x =>
        rw [e] at o
        have o : x.2 = u := Option.some.inj o
        have := (hk.2 x (List.mem_of_find?_eq_some e)).2
        omega
    exact ⟨fun z => absurd z (nI_pos (by omega)), fun z => absurd rfl z⟩
def SNm : Nat → Nat → Prop := fun a i => a = 171 ∨ (a = 159 ∧ (i = 7 ∨ i = 8 ∨ i = 19))
theorem M_name_ok {v : Nat} (hd : 3 ≤ d) (hw : WTp tp) (hM : IsM tp M) (hs : q_Sh σ) (hK : MK σ tp M i) (him : i < M) (hR : MR σ s c) (hN : okN s.2.2.2) (hl : s.2.2.2.length < 12) (hq1 : nwF s.2.2.2 (tk tp (i + 1)) = 0 → ∀ σ', Fr SNm LRl σ σ' → MK σ' tp M (i + 2) → MR σ' (s.1, s.2.1, s.2.2.1, s.2.2.2 ++ [((tk tp (i + 1)).2.2.2, v)]) c → Q none σ') (hq0 : nwF s.2.2.2 (tk tp (i + 1)) ≠ 0 → ∀ σ', Fr SNm LRl σ σ' → FX σ' (nI (flt tp (nwF s.2.2.2 (tk tp (i + 1))) (i + 1))) → Q none σ') : q_Call G d 0 0 X_M_readName [.ref 159, .int (nI v)] σ Q := by
  obtain ⟨d, rfl⟩ : ∃ d', d = d' + 1 := ⟨d - 1, by omega⟩
  refine q_cv0 (P := fun σ' => Fr SNm LRl σ σ' ∧ ((nwF s.2.2.2 (tk tp (i + 1)) = 0 ∧ MK σ' tp M (i + 2) ∧ MR σ' (s.1, s.2.1, s.2.2.1, s.2.2.2 ++ [((tk tp (i + 1)).2.2.2, v)]) c) ∨ (nwF s.2.2.2 (tk tp (i + 1)) ≠ 0 ∧ FX σ' (nI (flt tp (nwF s.2.2.2 (tk tp (i + 1))) (i + 1)))))) (by decide +kernel) (Nat.le_of_ble_eq_true rfl) (fun Q hq => ?_) (fun σ' h => by
    rcases h.2 with z | z
    · exact hq1 z.1 σ' h.1 z.2.1 z.2.2
    · exact hq0 z.1 σ' h.1 z.2)
  have hMb := hK.2.2.2.2
  have k0 := hK.at him
  have f0 : Fr S78 noL σ (q_setI σ 159 7 (nI (i + 1))) := Fr.setI ⟨rfl, Or.inl rfl⟩
  have hs0 := f0.sh hs
  have R0 := hR.s78 f0
  have n78 : ∀ {σ1 σ2 : q_S}, Fr S78 noL σ1 σ2 → Fr SNm LRl σ1 σ2 := fun f => f.mono (fun a j z => by unfold S78 at z; unfold SNm; omega) (fun _ _ z => z.elim)
  refine v_M_readName_0 hs ?_
  rw [hK.nx]
  generalize hσ0 : q_setI σ 159 7 (nI (i + 1)) = σ0 at *
  refine M_isName_ok (by omega) hs0 k0 ⟨hs0, _, rfl, fun c1 => ?_, fun c1 => ?_⟩
  · rw [i10, Decidable.not_not] at c1
    have t1 := (isNm_t.mp c1).1
    refine M_find_ok (r := 1) (Or.inr rfl) hs0 k0 t1 R0.2.2.1 hN ⟨hs0, _, rfl, fun c2 => ⟨fun z => absurd k0.2.2.1 z, fun _ => ⟨i + 1, k0.2.1, by omega, s.2.2.2.length, R0.2.2.1.1, by omega, s.2.2.2.length, R0.2.2.1.1, by omega, ?_⟩⟩, fun c2 => ?_⟩
    · have c2 := (lkI_neg hN).mp c2
      have e0 : nwF s.2.2.2 (tk tp (i + 1)) = 0 := by unfold nwF; rw [if_pos c1, if_neg c2]
      have e19 : q_I (q_setI (q_setL σ0 169 s.2.2.2.length (q_L σ0 163 (i + 1))) 171 s.2.2.2.length (nI v)) 159 19 = nI s.2.2.2.length := by rw [q_I_ne (by omega)]; exact R0.2.2.1.1
      have e7 : ∀ x, q_I (q_setI (q_setI (q_setL σ0 169 s.2.2.2.length (q_L σ0 163 (i + 1))) 171 s.2.2.2.length (nI v)) 159 19 x) 159 7 = nI (i + 1) := fun x => by rw [q_I_ne (by omega), q_I_ne (by omega)]; exact k0.2.1
      rw [e7, e19, nI_1, nI_1]
      have fA : Fr SNm LRl σ0 (q_setL σ0 169 s.2.2.2.length (q_L σ0 163 (i + 1))) := Fr.setL rfl
      have fB := fA.tr (Fr.setI (SI := SNm) (SL := LRl) (σ := q_setL σ0 169 s.2.2.2.length (q_L σ0 163 (i + 1))) (a := 171) (i := s.2.2.2.length) (v := nI v) (Or.inl rfl))
      have fC := fB.tr (Fr.setI (SI := SNm) (SL := LRl) (a := 159) (i := 19) (v := nI (s.2.2.2.length + 1)) (Or.inr ⟨rfl, Or.inr (Or.inr rfl)⟩))
      have kC : MK (q_setI (q_setI (q_setL σ0 169 s.2.2.2.length (q_L σ0 163 (i + 1))) 171 s.2.2.2.length (nI v)) 159 19 (nI (s.2.2.2.length + 1))) tp M (i + 1) := by
        have gA : Fr (fun a j => a = 171 ∨ (a = 159 ∧ j = 19)) LRl σ0 (q_setL σ0 169 s.2.2.2.length (q_L σ0 163 (i + 1))) := Fr.setL rfl
        have gB := gA.tr (Fr.setI (SI := fun a j => a = 171 ∨ (a = 159 ∧ j = 19)) (SL := LRl) (σ := q_setL σ0 169 s.2.2.2.length (q_L σ0 163 (i + 1))) (a := 171) (i := s.2.2.2.length) (v := nI v) (Or.inl rfl))
        have gC := gB.tr (Fr.setI (SI := fun a j => a = 171 ∨ (a = 159 ∧ j = 19)) (SL := LRl) (a := 159) (i := 19) (v := nI (s.2.2.2.length + 1)) (Or.inr ⟨rfl, rfl⟩))
        exact k0.fr gC (fun a j z => by omega) (fun a j z => by unfold LRl at z; omega)
      refine hq _ ⟨(n78 f0).tr (fC.tr (n78 (Fr.setI ⟨rfl, Or.inl rfl⟩))), Or.inl ⟨e0, kC.at (tk_up hM him (by rw [t1]; decide)), ?_⟩⟩
      refine MR.s78 ?_ (Fr.setI ⟨rfl, Or.inl rfl⟩)
      obtain ⟨h1, h2, h3, h4⟩ := R0
      refine ⟨fun j a b => by rw [q_I_ne (by omega), q_I_ne (by omega)]; exact h1 j a b, fun w hw => ?_, ⟨?_, fun k x hx => ?_⟩, by rw [q_I_ne (by omega), q_I_ne (by omega)]; exact h4⟩
      · rcases h2 w hw with ⟨a1, a2, a3⟩ | ⟨a1, a, a2, a3, a4, a5⟩
        · exact Or.inl ⟨a1, by rw [q_I_ne (by omega), q_I_ne (by omega)]; exact a2, a3⟩
        · exact Or.inr ⟨a1, a, by rw [q_I_ne (by omega), q_I_ne (by omega)]; exact a2, a3, a4.fr fC (fun b j z => by unfold SNm at z; omega), by rw [q_I_ne (by omega), q_I_ne (by omega)]; exact a5⟩
      · show q_I _ 159 19 = nI (s.2.2.2 ++ _).length
        rw [q_I_eq, List.length_append]
        rfl
      · rcases ap_get hx with ⟨x1, x2⟩ | ⟨x1, x2⟩
        · have := h3.2 k x x2
          show q_L _ 169 k = _ ∧ q_I _ 171 k = _
          rw [q_L_setI, q_L_setI, q_L_ne (by omega), q_I_ne (by omega), q_I_ne (by omega)]
          exact this
        · subst x1
          subst x2
          show q_L _ 169 _ = _ ∧ q_I _ 171 _ = _
          rw [q_L_setI, q_L_setI, q_L_eq, q_I_ne (by omega), q_I_eq]
          exact ⟨k0.me.2.2.1 t1, rfl⟩
    · have c2 : (lkN s.2.2.2 (tk tp (i + 1)).2.2.2).isSome = true := Classical.byContradiction (fun z => c2 ((lkI_neg hN).mpr z))
      have e3 : nwF s.2.2.2 (tk tp (i + 1)) = 3 := by unfold nwF; rw [if_pos c1, if_pos c2]
      refine M_wrong_ok (k := 3) hs0 k0 hw.1 (by decide) (by decide) (fun σ1 f1 x1 => ⟨f1.sh hs0, rfl, fun _ => hq _ ⟨(n78 f0).tr (n78 f1), Or.inr ⟨by rw [e3]; decide, by rw [e3]; exact x1⟩⟩, fun z => absurd z x1.n0⟩)
  · rw [i10] at c1
    have e1 : nwF s.2.2.2 (tk tp (i + 1)) = 1 := by unfold nwF; rw [if_neg c1]
    refine M_wrong_ok (k := 1) hs0 k0 hw.1 (by decide) (by decide) (fun σ1 f1 x1 => ⟨f1.sh hs0, rfl, fun _ => hq _ ⟨(n78 f0).tr (n78 f1), Or.inr ⟨by rw [e1]; decide, by rw [e1]; exact x1⟩⟩, fun z => absurd z x1.n0⟩)
theorem SNm_l (hf : Fr SNm LRl σ σ') : Fr SRl LRl σ σ' := hf.mono (fun a j z => by unfold SNm at z; unfold SRl; omega) (fun _ _ z => z)
theorem M_house_l (hd : 4 ≤ d) (hw : WTp tp) (hM : IsM tp M) (him : i < M) (hP : MlP tp M σ s c i) (hW : WS s) (hq : ∀ σ', MlV tp M σ (lnH tp s i) σ' → Q none σ') : q_Call G d 0 0 X_M_readHouse [.ref 159] σ Q := by
  obtain ⟨d, rfl⟩ : ∃ d', d = d' + 1 := ⟨d - 1, by omega⟩
  obtain ⟨hs, hK, hR, hc⟩ := hP
  have h6 := hW.1.2.1
  have h1 := hW.1.1
  have hl := hW.2.2.2.1
  refine q_cv0 (P := MlV tp M σ (lnH tp s i)) (by decide +kernel) (Nat.le_of_ble_eq_true rfl) (fun Q hq => ?_) hq
  have e0 : q_I σ 165 200 = nI (s.1 0) := hR.1 0 (by decide) (by decide)
  have e6 : (q_I σ 165 200 = 6) ↔ s.1 0 = 6 := by rw [e0]; exact nI_eq (b := 6) (by omega) (by decide)
  refine v_M_readHouse_0 hs ⟨fun c6 => ?_, fun c6 => ?_⟩
  · rw [e6] at c6
    rw [e0]
    refine M_name_ok (by omega) hw hM hs hK him hR hW.okN (by omega) (fun z σ1 f1 k1 R1 => ⟨f1.sh hs, rfl, hq _ ?_⟩) (fun z σ1 f1 x1 => ⟨f1.sh hs, rfl, hq _ ?_⟩)
    · have e : lnH tp s i = (0, i + 2, (updN s.1 0 (s.1 0 + 1), s.2.1, s.2.2.1, s.2.2.2 ++ [((tk tp (i + 1)).2.2.2, s.1 0)])) := by unfold lnH; rw [if_neg (by omega), if_pos z]
      rw [e, show q_I σ1 165 200 = nI (s.1 0) from R1.1 0 (by decide) (by decide), nI_1]
      exact ⟨(SNm_l f1).tr (Fr165 (by decide)), Or.inl ⟨rfl, k1.w165, c, R1.upd (j := 0) (v := s.1 0 + 1) (by decide) (by decide), by show c ≤ i + 2; omega⟩⟩
    · exact MlV.bad (by unfold lnH; rw [if_neg (by omega), if_neg z]) z ((SNm_l f1).tr (Fr165 (by decide))) x1.w165
  · rw [e6] at c6
    exact M_wrong_ok (k := 5) hs hK hw.1 (by decide) (by decide) (fun σ1 f1 x1 => ⟨f1.sh hs, rfl, hq _ (MlV.bad (by unfold lnH; rw [if_pos (by omega)]) (by decide) (S78_l f1) x1)⟩)
theorem ix208 {A B : Nat} (b : Nat) : ((nI b + (6 * nI A)) + nI B) = nI (b + (A * 6 + B)) := by
  rw [show (6 : Int32) = nI 6 from rfl, pk_mul, nI_add, nI_add]
  congr 1
  omega
theorem M_wall_l (hd : 5 ≤ d) (hw : WTp tp) (hM : IsM tp M) (him : i < M) (hP : MlP tp M σ s c i) (hW : WS s) (hq : ∀ σ', MlV tp M σ (lnW tp s i) σ' → Q none σ') : q_Call G d 0 0 X_M_readWall [.ref 159] σ Q := by
  obtain ⟨d, rfl⟩ : ∃ d', d = d' + 1 := ⟨d - 1, by omega⟩
  obtain ⟨hs, hK, hR, hc⟩ := hP
  have h6 := hW.1.2.1
  refine q_cv0 (P := MlV tp M σ (lnW tp s i)) (by decide +kernel) (Nat.le_of_ble_eq_true rfl) (fun Q hq => ?_) hq
  have f0 : Fr S78 noL σ (q_setI σ 159 7 (nI (i + 1))) := Fr.setI ⟨rfl, Or.inl rfl⟩
  have hs0 := f0.sh hs
  refine v_M_readWall_0 hs ?_
  rw [hK.nx]
  refine M_two_ok (r := 1) (b := 0) (Or.inr rfl) (Or.inl rfl) (by omega) hw hM hs0 (hK.at him) (hR.s78 f0).2.2.1 hW.okN (fun ta tb σ2 f2 k2 => ?_) (fun e a σ2 ha f2 x2 => ?_)
  · have hs2 := f2.sh hs0
    have F2 := f0.tr f2
    have R2 := hR.s78 F2
    have a6 := ((tdX_lt (T := tk tp (i + 1)) hW.1 hW.2.2.1).1 ta).1
    have b6 := ((tdX_lt (T := tk tp (i + 1 + 1)) hW.1 hW.2.2.1).1 tb).1
    have eW : ∀ r, (if tdX s.2.2.2 0 (tk tp (i + 1)) = tdX s.2.2.2 0 (tk tp (i + 1 + 1)) then (3, i + 2, s) else if s.1 (8 + (tdX s.2.2.2 0 (tk tp (i + 1)) * 6 + tdX s.2.2.2 0 (tk tp (i + 1 + 1)))) = 0 then (if nmF (tk tp (i + 3)) 1 9 = 0 then (0, i + 4, (wlD s.1 (tdX s.2.2.2 0 (tk tp (i + 1))) (tdX s.2.2.2 0 (tk tp (i + 1 + 1))) (tk tp (i + 3)).2.2.1, s.2)) else (nmF (tk tp (i + 3)) 1 9, i + 3, s)) else (3, i + 2, s)) = r → lnW tp s i = r := fun r h => by
      unfold lnW twF
      rw [if_pos ta, if_pos tb]
      by_cases e : tdX s.2.2.2 0 (tk tp (i + 1)) = tdX s.2.2.2 0 (tk tp (i + 1 + 1))
      · rw [if_pos e] at h ⊢
        exact h
      · rw [if_neg e] at h ⊢
        exact h
    generalize tdX s.2.2.2 0 (tk tp (i + 1)) = A at *
    generalize tdX s.2.2.2 0 (tk tp (i + 1 + 1)) = B at *
    have h0 := k2.2.2.1
    have l0 : q_I σ2 159 8 ≤ 0 := by rw [h0]; exact Int32.le_refl _
    have eAB : (nI A = nI B) ↔ A = B := nI_eq (by omega) (by omega)
    have h9 : s.1 (8 + (A * 6 + B)) ≤ 9 := hW.1.2.2.2.2.2.2.1 _ (by omega)
    have ev : q_I σ2 165 (208 + (A * 6 + B)) = nI (s.1 (8 + (A * 6 + B))) := by
      rw [show 208 + (A * 6 + B) = 200 + (8 + (A * 6 + B)) by omega]
      exact R2.1 _ (by omega) (by omega)
    have tl : lnW tp s i = (3, i + 2, s) → q_Call G d 0 0 X_M_wrong [.ref 159, .int 3] σ2 (q_rv (fun σ30 => (((q_I σ30 159 8) ≤ 0 → q_Call G d 0 0 X_M_takeNumber [.ref 159, .int 1, .int 9] (q_setI σ30 159 7 ((q_I σ30 159 7) + 1)) (q_ri (fun x37 σ35 => (∃ k39, ((208 + (6 * nI A)) + nI B) = nI k39 ∧ k39 < 400 ∧ (∃ k41, ((208 + (6 * nI B)) + nI A) = nI k41 ∧ k41 < 400 ∧ Q none (q_setI (q_setI (q_setI σ35 165 k39 x37) 165 k41 x37) 165 202 ((q_I (q_setI (q_setI σ35 165 k39 x37) 165 k41 x37) 165 202) + 1))))))) ∧ (¬ (q_I σ30 159 8) ≤ 0 → Q none σ30)))) := fun er => M_wrong_ok (k := 3) hs2 k2 hw.1 (by decide) (by decide) (fun σ3 f3 x3 => ⟨f3.sh hs2, rfl, fun z => absurd z x3.nle, fun _ => hq _ (MlV.bad er (by decide) (S78_l (F2.tr f3)) x3)⟩)
    refine ⟨fun z => absurd h0 z, fun _ => ⟨fun z => tl (eW _ (if_pos (eAB.mp z))), fun z => ⟨208 + (A * 6 + B), ix208 208, by omega, fun cz => ⟨fun _ => ?_, fun y => absurd l0 y⟩, fun cz => ?_⟩⟩⟩
    · rw [eAB] at z
      rw [ev, le0_iff (by omega)] at cz
      rw [k2.nx]
      have i3 : i + 3 ≤ M := tk_up hM k2.2.2.2.1 (by rw [tdF_0 tb]; decide)
      have f3 : Fr S78 noL σ2 (q_setI σ2 159 7 (nI (i + 3))) := Fr.setI ⟨rfl, Or.inl rfl⟩
      have hs3 := f3.sh hs2
      refine M_number_ok (i := i + 3) (lo := 1) (hi := 9) (by omega) (by decide) (by decide) hw hM hs3 (k2.at i3) (fun en σ4 f4 k4 => ⟨f4.sh hs3, _, rfl, 208 + (A * 6 + B), ix208 208, by omega, 208 + (B * 6 + A), ix208 208, by omega, hq _ ?_⟩) (fun en σ4 f4 x4 => ⟨f4.sh hs3, _, rfl, 208 + (A * 6 + B), ix208 208, by omega, 208 + (B * 6 + A), ix208 208, by omega, hq _ ?_⟩)
      · have R4 := hR.s78 ((F2.tr f3).tr f4)
        have U1 := R4.upd (j := 8 + (A * 6 + B)) (v := (tk tp (i + 3)).2.2.1) (by omega) (by omega)
        have U2 := U1.upd (j := 8 + (B * 6 + A)) (v := (tk tp (i + 3)).2.2.1) (by omega) (by omega)
        have U3 := U2.upd (j := 2) (v := s.1 2 + 1) (by decide) (by decide)
        rw [show 208 + (A * 6 + B) = 200 + (8 + (A * 6 + B)) by omega, show 208 + (B * 6 + A) = 200 + (8 + (B * 6 + A)) by omega]
        have e2 : q_I (q_setI (q_setI σ4 165 (200 + (8 + (A * 6 + B))) (nI (tk tp (i + 3)).2.2.1)) 165 (200 + (8 + (B * 6 + A))) (nI (tk tp (i + 3)).2.2.1)) 165 202 = nI (s.1 2) := by
          rw [q_I_ne (by omega), q_I_ne (by omega)]
          exact R4.1 2 (by decide) (by decide)
        rw [e2, nI_1, eW _ (by rw [if_neg z, if_pos cz, if_pos en])]
        exact ⟨(((S78_l ((F2.tr f3).tr f4)).tr (Fr165 (by omega))).tr (Fr165 (by omega))).tr (Fr165 (by omega)), Or.inl ⟨rfl, k4.w165.w165.w165, c, U3, by show c ≤ i + 4; omega⟩⟩
      · exact MlV.bad (eW _ (by rw [if_neg z, if_pos cz, if_neg en])) en ((((S78_l ((F2.tr f3).tr f4)).tr (Fr165 (by omega))).tr (Fr165 (by omega))).tr (Fr165 (by omega))) x4.w165.w165.w165
    · rw [eAB] at z
      rw [ev, le0_iff (by omega)] at cz
      exact tl (eW _ (by rw [if_neg z, if_neg cz]))
  · have x2' := x2
    refine ⟨fun _ => ⟨fun z => absurd z x2.nle, fun _ => hq _ (MlV.bad (by unfold lnW; rw [if_neg e]) e (S78_l (f0.tr f2)) x2)⟩, fun z => absurd z x2.n0⟩
end MLINE
