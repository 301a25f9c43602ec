-- days told
abbrev q_dr : Type := Nat × Nat × q_dy
def dlA (tp : List Nat) (N : q_nm) (dy : q_dy) (i : Nat) : q_dr :=
  if acT (tk tp i) = -1 then (1, i, dy)
  else if 24 ≤ dy.length then (5, i, dy)
  else if (tk tp i).2.2.1 = 14 then (if nmF (tk tp (i + 1)) 0 9999 = 0 then (0, i + 2, dy ++ [(0, 0, 0, (tk tp (i + 1)).2.2.1)]) else (nmF (tk tp (i + 1)) 0 9999, i + 1, dy))
  else if (twF tp N 20 (i + 1)).1 = 0 then
    if (tk tp i).2.2.1 = 15 then (0, i + 3, dy ++ [(1, tdX N 20 (tk tp (i + 1)), tdX N 20 (tk tp (i + 2)), 0)])
    else if nmF (tk tp (i + 3)) 1 999 = 0 then (0, i + 4, dy ++ [((tk tp i).2.2.1 - 14, tdX N 20 (tk tp (i + 1)), tdX N 20 (tk tp (i + 2)), (tk tp (i + 3)).2.2.1)])
    else (nmF (tk tp (i + 3)) 1 999, i + 3, dy)
  else ((twF tp N 20 (i + 1)).1, (twF tp N 20 (i + 1)).2, dy)
def dyA (tp : List Nat) (N : q_nm) : Nat → q_dy → Nat → q_dr
  | 0, dy, i => (9, i, dy)
  | n + 1, dy, i => if (tk tp i).1 = 0 then (0, i, dy)
    else if (dlA tp N dy i).1 = 0 then (if isS (tk tp (dlA tp N dy i).2.1) 59 = true then dyA tp N n (dlA tp N dy i).2.2 ((dlA tp N dy i).2.1 + 1) else (1, (dlA tp N dy i).2.1, dy))
    else ((dlA tp N dy i).1, (dlA tp N dy i).2.1, dy)
theorem itd_le {c : Prop} [Decidable c] {x y : q_dr} (h1 : x.1 ≤ 9) (h2 : y.1 ≤ 9) : (if c then x else y).1 ≤ 9 := by
  split
  · exact h1
  · exact h2
theorem dlA_le {tp : List Nat} {N : q_nm} {dy : q_dy} {i : Nat} : (dlA tp N dy i).1 ≤ 9 := by
  unfold dlA
  exact itd_le (by decide : (1 : Nat) ≤ 9) (itd_le (by decide : (5 : Nat) ≤ 9) (itd_le (itd_le (Nat.zero_le 9) nmF_le) (itd_le (itd_le (Nat.zero_le 9) (itd_le (Nat.zero_le 9) nmF_le)) twF_le)))
theorem dyA_le {tp : List Nat} {N : q_nm} : ∀ n dy i, (dyA tp N n dy i).1 ≤ 9
  | 0, dy, i => Nat.le_refl 9
  | n + 1, dy, i => by
    rw [dyA]
    exact itd_le (Nat.zero_le 9) (itd_le (itd_le (dyA_le n _ _) (by decide : (1 : Nat) ≤ 9)) dlA_le)
theorem ap_get {α : Type} {l : List α} {c x : α} {i : Nat} (h : (l ++ [c])[i]? = some x) : (i < l.length ∧ l[i]? = some x) ∨ (i = l.length ∧ x = c) := by
  by_cases e : i < l.length
  · rw [List.getElem?_append_left e] at h
    exact Or.inl ⟨e, h⟩
  · rw [List.getElem?_append_right (by omega)] at h
    have := (List.getElem?_eq_some_iff.mp h).1
    have e2 : i - l.length = 0 := by
      rw [List.length_singleton] at this
      omega
    rw [e2] at h
    have h : some c = some x := h
    exact Or.inr ⟨by omega, (Option.some.inj h).symm⟩
theorem acT_n {T : q_tk} (h : ¬ acT T = -1) : T.1 = 1 ∧ 14 ≤ T.2.2.1 ∧ T.2.2.1 ≤ 17 ∧ acT T = nI (T.2.2.1 - 14) := by
  by_cases c : T.1 = 1 ∧ 14 ≤ T.2.2.1 ∧ T.2.2.1 ≤ 17
  · exact ⟨c.1, c.2.1, c.2.2, by unfold acT; rw [if_pos c]⟩
  · exact absurd (by unfold acT; rw [if_neg c]) h
-- what a line keeps
theorem WY_add {D : Nat → Nat} {dy : q_dy} {x : Nat × Nat × Nat × Nat} (h : WY D dy) (hl : dy.length < 24) (h1 : x.1 ≤ 3 ∧ x.2.2.2 ≤ 9999 ∧ (x.1 ≠ 0 → x.2.1 < D 1 ∧ x.2.2.1 < D 1 ∧ x.2.1 ≠ x.2.2.1)) : WY D (dy ++ [x]) := by
  refine ⟨by rw [List.length_append, List.length_singleton]; omega, fun y hy => ?_⟩
  rcases List.mem_append.mp hy with z | z
  · exact h.2 y z
  · rw [List.mem_singleton.mp z]; exact h1
theorem WY_A {tp : List Nat} {D : Nat → Nat} {N : q_nm} {dy : q_dy} {i M : Nat} (hM : IsM tp M) (hi : i ≤ M) (hD : WfD D) (hN : WN D N) (hY : WY D dy) (h : (dlA tp N dy i).1 = 0) : WY D (dlA tp N dy i).2.2 ∧ i < (dlA tp N dy i).2.1 ∧ (dlA tp N dy i).2.1 ≤ M := by
  unfold dlA at h ⊢
  by_cases c1 : acT (tk tp i) = -1
  · rw [if_pos c1] at h
    exact absurd (show (1 : Nat) = 0 from h) (by decide)
  rw [if_neg c1] at h ⊢
  obtain ⟨t1, t2, t3, t4⟩ := acT_n c1
  have i1 : i + 1 ≤ M := tk_up hM hi (by rw [t1]; decide)
  by_cases c2 : 24 ≤ dy.length
  · rw [if_pos c2] at h
    exact absurd (show (5 : Nat) = 0 from h) (by decide)
  rw [if_neg c2] at h ⊢
  by_cases c3 : (tk tp i).2.2.1 = 14
  · rw [if_pos c3] at h ⊢
    by_cases c4 : nmF (tk tp (i + 1)) 0 9999 = 0
    · rw [if_pos c4] at h ⊢
      obtain ⟨n1, n2, n3⟩ := nmF_0 c4
      exact ⟨WY_add hY (by omega) ⟨Nat.zero_le _, n3, fun z => absurd rfl z⟩, by show i < i + 2; omega, tk_up hM i1 (by rw [n1]; decide)⟩
    · rw [if_neg c4] at h
      exact absurd h c4
  rw [if_neg c3] at h ⊢
  by_cases c4 : (twF tp N 20 (i + 1)).1 = 0
  · rw [if_pos c4] at h ⊢
    obtain ⟨w1, w2, w3⟩ := twF_0 c4
    rw [show i + 1 + 1 = i + 2 from rfl] at w2 w3
    have i2 : i + 2 ≤ M := tk_up hM i1 (by rw [tdF_0 w1]; decide)
    have i3 : i + 3 ≤ M := tk_up hM i2 (by rw [tdF_0 w2]; decide)
    have x1 := ((tdX_lt (T := tk tp (i + 1)) hD hN).2 w1).1
    have x2 := ((tdX_lt (T := tk tp (i + 2)) hD hN).2 w2).1
    by_cases c5 : (tk tp i).2.2.1 = 15
    · rw [if_pos c5] at h ⊢
      exact ⟨WY_add hY (by omega) ⟨(by decide : (1 : Nat) ≤ 3), Nat.zero_le _, fun _ => ⟨x1, x2, w3⟩⟩, by show i < i + 3; omega, i3⟩
    · rw [if_neg c5] at h ⊢
      by_cases c6 : nmF (tk tp (i + 3)) 1 999 = 0
      · rw [if_pos c6] at h ⊢
        obtain ⟨n1, n2, n3⟩ := nmF_0 c6
        exact ⟨WY_add hY (by omega) ⟨by show (tk tp i).2.2.1 - 14 ≤ 3; omega, by show (tk tp (i + 3)).2.2.1 ≤ 9999; omega, fun _ => ⟨x1, x2, w3⟩⟩, by show i < i + 4; omega, tk_up hM i3 (by rw [n1]; decide)⟩
      · rw [if_neg c6] at h
        exact absurd h c6
  · rw [if_neg c4] at h
    exact absurd h c4
def SDy (p : Nat) : Nat → Nat → Prop := fun a _ => p ≤ a ∧ a ≤ p + 4
def SDr (p : Nat) : Nat → Nat → Prop := fun a _ => a = 3 ∨ a = 4 ∨ (p ≤ a ∧ a ≤ p + 4)
section WDAYS
variable {G : q_G} {d : Nat} {σ σ' σ1 : q_S} {Q : Option Value → q_S → Prop} {t p M i : Nat} {D : Nat → Nat} {P : Nat → List Int32} {N : q_nm} {hm : Nat → Nat} {L : Nat → Int32} {un : List q_lf} {mk : Nat → Option (q_lf × q_tl)} {tl : q_tl} {dy : q_dy} {tp : List Nat}
theorem CY.k {SI SL : Nat → Nat → Prop} (h : CY σ p dy) (hf : Fk SI SL σ σ') (hI : ∀ a j, SI a j → ¬ (p ≤ a ∧ a ≤ p + 4)) : CY σ' p dy := by
  refine ⟨by rw [hf.2.2.1 _ _ (fun z => hI _ _ z ⟨by omega, by omega⟩)]; exact h.1, fun k x hx => ?_⟩
  rw [hf.2.2.1 _ _ (fun z => hI _ _ z ⟨by omega, by omega⟩), hf.2.2.1 _ _ (fun z => hI _ _ z ⟨by omega, by omega⟩), hf.2.2.1 _ _ (fun z => hI _ _ z ⟨by omega, by omega⟩), hf.2.2.1 _ _ (fun z => hI _ _ z ⟨by omega, by omega⟩)]
  exact h.2 k x hx
theorem Dy_add_ok {x : Nat × Nat × Nat × Nat} (hp : q_isDy p) (hs : q_Sh σ) (hY : CY σ p dy) (hl : dy.length < 24) (hq : ∀ σ', Fr (SDy p) noL σ σ' → CY σ' p (dy ++ [x]) → Q (some (.int 1)) σ') : q_Call G d 0 0 X_Dy_add [.ref p, .int (nI x.1), .int (nI x.2.1), .int (nI x.2.2.1), .int (nI x.2.2.2)] σ Q := by
  have h0 := isDy_cases hp
  have m : ∀ {σ2 : q_S} {u i : Nat} {v : Int32}, u ≤ 4 → Fr (SDy p) noL σ2 (q_setI σ2 (p + u) i v) := fun h1 => Fr.setI ⟨by omega, by omega⟩
  refine q_cii (Pp := fun v σ' => v = 1 ∧ Fr (SDy p) noL σ σ' ∧ CY σ' p (dy ++ [x])) (by decide +kernel) (Nat.le_of_ble_eq_true rfl) (fun Q hv => ?_) (fun v σ' h => by rw [h.1]; exact hq σ' h.2.1 h.2.2)
  refine v_Dy_add_0 hp hs ⟨fun c => ?_, fun _ => ⟨dy.length, hY.1, hl, dy.length, by rw [q_I_ne (by omega)]; exact hY.1, hl, dy.length, by rw [q_I_ne (by omega), q_I_ne (by omega)]; exact hY.1, hl, dy.length, by rw [q_I_ne (by omega), q_I_ne (by omega), q_I_ne (by omega)]; exact hY.1, hl, hv _ _ ⟨rfl, ?_, ?_, fun k y hy => ?_⟩⟩⟩
  · rw [hY.1] at c
    exact ge_not (a := dy.length) (b := 24) c hl (by decide)
  · exact ((((m (u := 1) (by decide)).tr (m (u := 2) (by decide))).tr (m (u := 3) (by decide))).tr (m (u := 4) (by decide))).tr (m (u := 0) (by decide))
  · rw [q_I_eq, q_I_ne (by omega), q_I_ne (by omega), q_I_ne (by omega), q_I_ne (by omega), hY.1, nI_1, List.length_append]
    rfl
  · rcases ap_get hy with ⟨k1, k2⟩ | ⟨k1, k2⟩
    · have g := hY.2 k y k2
      refine ⟨?_, ?_, ?_, ?_⟩
      · rw [q_I_ne (by omega), q_I_ne (by omega), q_I_ne (by omega), q_I_ne (by omega), q_I_ne (by omega)]; exact g.1
      · rw [q_I_ne (by omega), q_I_ne (by omega), q_I_ne (by omega), q_I_ne (by omega), q_I_ne (by omega)]; exact g.2.1
      · rw [q_I_ne (by omega), q_I_ne (by omega), q_I_ne (by omega), q_I_ne (by omega), q_I_ne (by omega)]; exact g.2.2.1
      · rw [q_I_ne (by omega), q_I_ne (by omega), q_I_ne (by omega), q_I_ne (by omega), q_I_ne (by omega)]; exact g.2.2.2
    · subst k1
      subst k2
      refine ⟨?_, ?_, ?_, ?_⟩
      · rw [q_I_ne (by omega), q_I_ne (by omega), q_I_ne (by omega), q_I_ne (by omega), q_I_eq]
      · rw [q_I_ne (by omega), q_I_ne (by omega), q_I_ne (by omega), q_I_eq]
      · rw [q_I_ne (by omega), q_I_ne (by omega), q_I_eq]
      · rw [q_I_ne (by omega), q_I_eq]
def DyV (tp : List Nat) (p : Nat) (σ : q_S) (r : q_dr) (v : Int32) (σ' : q_S) : Prop := (r.1 = 0 ∧ v = 1 ∧ Fk (SDr p) SKl σ σ' ∧ CK σ' tp r.2.1 ∧ q_I σ' 3 9 = 0 ∧ CY σ' p r.2.2) ∨ (r.1 ≠ 0 ∧ v = 0 ∧ Fk (SDr p) SKl σ σ' ∧ q_I σ' 3 9 = nI (flt tp r.1 r.2.1))
theorem DyV.bad {k j : Nat} {r : q_dr} (e : r = (k, j, dy)) (hk : k ≠ 0) (hf : Fk (SDr p) SKl σ σ') (h : q_I σ' 3 9 = nI (flt tp k j)) : DyV tp p σ r 0 σ' := by
  rw [e]
  exact Or.inr ⟨hk, rfl, hf, h⟩
theorem D4t (hf : Fk S4 SKl σ σ') : Fk (SDr p) SKl σ σ' := hf.mono (fun a j z => by unfold S4 at z; unfold SDr; omega) (fun a j z => z)
theorem DAt (hf : Fk SKa SKl σ σ') : Fk (SDr p) SKl σ σ' := hf.mono (fun a j z => Or.inl z.1) (fun a j z => z)
theorem DBt (hf : Fk SKb SKl σ σ') : Fk (SDr p) SKl σ σ' := hf.mono (fun a j z => Or.inl z.1) (fun a j z => z)
theorem D9t (hf : Fr S39 noL σ σ') : Fk (SDr p) SKl σ σ' := hf.k.mono (fun a j z => Or.inl z.1) (fun _ _ z => z.elim)
theorem DDt (hf : Fr (SDy p) noL σ σ') : Fk (SDr p) SKl σ σ' := hf.k.mono (fun a j z => Or.inr (Or.inr z)) (fun _ _ z => z.elim)
theorem Rd_dline_ok (hw : WTp tp) (hd : 8 ≤ d) (ht : q_isTw t) (hp : q_isDy p) (hs : q_Sh σ) (hK : CK σ tp i) (hz : q_I σ 3 9 = 0) (hT : TNm σ t D N) (hY : CY σ p dy) (hl : dy.length ≤ 24) (hq : ∀ v σ', DyV tp p σ (dlA tp N dy i) v σ' → Q (some (.int v)) σ') : q_Call G d 0 0 X_Rd_readDaysLine [.ref 4, .ref t, .ref p] σ Q := by
  obtain ⟨d, rfl⟩ : ∃ d', d = d' + 1 := ⟨d - 1, by omega⟩
  have h0 := isDy_cases hp
  have nA : ∀ a j, SKa a j → ¬ (p ≤ a ∧ a ≤ p + 4) := fun a j z => by unfold SKa at z; omega
  have nB : ∀ a j, SKb a j → ¬ (p ≤ a ∧ a ≤ p + 4) := fun a j z => by unfold SKb at z; omega
  have n4 : ∀ a j, S4 a j → ¬ (p ≤ a ∧ a ≤ p + 4) := fun a j z => by unfold S4 at z; omega
  have nK : ∀ {σ1 σ2 : q_S} {j : Nat}, CK σ1 tp j → Fr (SDy p) noL σ1 σ2 → CK σ2 tp j := fun k f => k.k f (fun a j z => by unfold SDy at z; omega) (fun _ _ z => z.elim)
  have n9 : ∀ {σ1 σ2 : q_S}, q_I σ1 3 9 = 0 → Fr (SDy p) noL σ1 σ2 → q_I σ2 3 9 = 0 := fun k f => by rw [f.2.2.1 _ _ (fun z => by unfold SDy at z; omega)]; exact k
  refine q_cii (Pp := DyV tp p σ (dlA tp N dy i)) (by decide +kernel) (Nat.le_of_ble_eq_true rfl) (fun Q hv => ?_) hq
  refine v_Rd_readDaysLine_0 ht hp hs (Rd_act_ok (by omega) hs hK ⟨hs, _, rfl, fun c1 => ?_, fun c1 => ?_⟩)
  · obtain ⟨t1, t2, t3, t4⟩ := acT_n c1
    have e24 : (q_I σ p 4 < 24) ↔ dy.length < 24 := by rw [hY.1]; exact nI_ltI (b := 24) (by omega) (by decide)
    refine ⟨fun c2 => ?_, fun c2 => ?_⟩
    · rw [e24] at c2
      refine Tk_next (by omega) hs hw hK (fun σ1 f1 k1 => ⟨f1.sh hs, rfl, ?_⟩)
      have hs1 := f1.sh hs
      have Y1 := hY.k f1 nA
      rw [t4]
      have z0 : (nI ((tk tp i).2.2.1 - 14) = 0) ↔ (tk tp i).2.2.1 = 14 := by
        rw [show (0 : Int32) = nI 0 from rfl, nI_eq (by omega) (by decide)]
        omega
      have z1 : (nI ((tk tp i).2.2.1 - 14) = 1) ↔ (tk tp i).2.2.1 = 15 := by
        rw [show (1 : Int32) = nI 1 from rfl, nI_eq (by omega) (by decide)]
        omega
      refine ⟨fun c3 => ?_, fun c3 => ?_⟩
      · rw [z0] at c3
        refine Rd_two_ok (b := 20) (Or.inr ⟨rfl, rfl⟩) (by omega) ht hs1 hw k1 (f39 f1 hz) (hT.k ht f1 (fun a j z => lt27A z) (fun a j z => lt27l z)) (fun e σ2 f2 k2 g1 g2 z2 => ⟨f2.sh hs1, _, rfl, fun _ => ?_, fun z => absurd z (by decide)⟩) (fun e σ2 f2 z2 => ⟨f2.sh hs1, _, rfl, fun z => absurd rfl z, fun _ => hv _ _ (DyV.bad (by unfold dlA; rw [if_neg c1, if_neg (by omega), if_neg c3, if_neg e]) e ((DAt f1).tr (D4t f2)) z2)⟩)
        have hs2 := f2.sh hs1
        have Y2 := Y1.k f2 n4
        refine Tk_next (by omega) hs2 hw k2 (fun σ3 f3 k3 => ⟨f3.sh hs2, rfl, ?_⟩)
        have hs3 := f3.sh hs2
        have Y3 := Y2.k f3 nA
        have F3 : Fk (SDr p) SKl σ σ3 := ((DAt f1).tr (D4t f2)).tr (DAt f3)
        rw [show i + 1 + 1 = i + 2 from rfl] at g2
        refine ⟨fun c4 => ?_, fun c4 => ?_⟩
        · rw [z1] at c4
          refine Tk_takeNumber_ok (lo := 1) (hi := 999) (by omega) (by decide) (by decide) hs3 hw k3 (fun en σ4 f4 k4 g4 => ⟨f4.sh hs3, _, rfl, fun z => absurd z (by decide), fun _ => ?_⟩) (fun en σ4 f4 z4 => ⟨f4.sh hs3, _, rfl, fun _ => hv _ _ (DyV.bad (by unfold dlA; rw [if_neg c1, if_neg (by omega), if_neg c3, if_pos e, if_neg c4]; exact if_neg en) en (F3.tr (D9t f4)) z4), fun z => absurd rfl z⟩)
          have hs4 := f4.sh hs3
          have Y4 := Y3.k f4 nB
          have g41 : q_I σ4 4 1 = nI (tdX N 20 (tk tp (i + 1))) := by rw [f4.2.2.1 _ _ (fun z => absurd z.1 (by decide)), f3.2.2.1 _ _ (fun z => absurd z.1 (by decide))]; exact g1
          have g42 : q_I σ4 4 2 = nI (tdX N 20 (tk tp (i + 2))) := by rw [f4.2.2.1 _ _ (fun z => absurd z.1 (by decide)), f3.2.2.1 _ _ (fun z => absurd z.1 (by decide))]; exact g2
          rw [g41, g42, g4]
          refine Dy_add_ok (x := ((tk tp i).2.2.1 - 14, tdX N 20 (tk tp (i + 1)), tdX N 20 (tk tp (i + 2)), (tk tp (i + 1 + 1 + 1)).2.2.1)) hp hs4 Y4 c2 (fun σ5 f5 Y5 => ⟨f5.sh hs4, _, rfl, rfl, hv _ _ ?_⟩)
          have er : dlA tp N dy i = (0, i + 4, dy ++ [((tk tp i).2.2.1 - 14, tdX N 20 (tk tp (i + 1)), tdX N 20 (tk tp (i + 2)), (tk tp (i + 3)).2.2.1)]) := by
            unfold dlA
            rw [if_neg c1, if_neg (by omega), if_neg c3, if_pos e, if_neg c4]
            exact if_pos en
          rw [er]
          exact Or.inl ⟨rfl, rfl, (F3.tr (DBt f4)).tr (DDt f5), nK k4 f5, n9 (f39b f4 (f39 f3 z2)) f5, Y5⟩
        · rw [z1] at c4
          have g31 : q_I σ3 4 1 = nI (tdX N 20 (tk tp (i + 1))) := by rw [f3.2.2.1 _ _ (fun z => absurd z.1 (by decide))]; exact g1
          have g32 : q_I σ3 4 2 = nI (tdX N 20 (tk tp (i + 2))) := by rw [f3.2.2.1 _ _ (fun z => absurd z.1 (by decide))]; exact g2
          rw [g31, g32, c4]
          refine Dy_add_ok (x := (1, tdX N 20 (tk tp (i + 1)), tdX N 20 (tk tp (i + 2)), 0)) hp hs3 Y3 c2 (fun σ5 f5 Y5 => ⟨f5.sh hs3, _, rfl, rfl, hv _ _ ?_⟩)
          have er : dlA tp N dy i = (0, i + 3, dy ++ [(1, tdX N 20 (tk tp (i + 1)), tdX N 20 (tk tp (i + 2)), 0)]) := by
            unfold dlA
            rw [if_neg c1, if_neg (by omega), if_neg c3, if_pos e, if_pos c4]
          rw [er]
          exact Or.inl ⟨rfl, rfl, F3.tr (DDt f5), nK k3 f5, n9 (f39 f3 z2) f5, Y5⟩
      · rw [z0] at c3
        refine Tk_takeNumber_ok (lo := 0) (hi := 9999) (by omega) (by decide) (by decide) hs1 hw k1 (fun en σ4 f4 k4 g4 => ⟨f4.sh hs1, _, rfl, fun z => absurd z (by decide), fun _ => ?_⟩) (fun en σ4 f4 z4 => ⟨f4.sh hs1, _, rfl, fun _ => hv _ _ (DyV.bad (by unfold dlA; rw [if_neg c1, if_neg (by omega), if_pos c3]; exact if_neg en) en ((DAt f1).tr (D9t f4)) z4), fun z => absurd rfl z⟩)
        have hs4 := f4.sh hs1
        rw [g4, c3]
        refine Dy_add_ok (x := (0, 0, 0, (tk tp (i + 1)).2.2.1)) hp hs4 (Y1.k f4 nB) c2 (fun σ5 f5 Y5 => ⟨f5.sh hs4, _, rfl, rfl, hv _ _ ?_⟩)
        have er : dlA tp N dy i = (0, i + 2, dy ++ [(0, 0, 0, (tk tp (i + 1)).2.2.1)]) := by
          unfold dlA
          rw [if_neg c1, if_neg (by omega), if_pos c3]
          exact if_pos en
        rw [er]
        exact Or.inl ⟨rfl, rfl, ((DAt f1).tr (DBt f4)).tr (DDt f5), nK k4 f5, n9 (f39b f4 (f39 f1 hz)) f5, Y5⟩
    · rw [e24] at c2
      exact Tk_refuse_ok (k := 5) hs hK (fun σ3 f3 z3 => ⟨f3.sh hs, _, rfl, rfl, hv _ _ (DyV.bad (by unfold dlA; rw [if_neg c1, if_pos (by omega)]) (by decide) (D9t f3) z3)⟩)
  · exact Tk_refuse_ok (k := 1) hs hK (fun σ3 f3 z3 => ⟨f3.sh hs, _, rfl, rfl, hv _ _ (DyV.bad (by unfold dlA; rw [if_pos c1]) (by decide) (D9t f3) z3)⟩)
def DnV (tp : List Nat) (p : Nat) (σ : q_S) (D : Nat → Nat) (r : q_dr) (v : Int32) (σ' : q_S) : Prop := Fk (SDr p) SKl σ σ' ∧ ((r.1 = 0 ∧ v = 0 ∧ CY σ' p r.2.2 ∧ WY D r.2.2) ∨ (r.1 ≠ 0 ∧ v = nI (flt tp r.1 r.2.1)))
theorem Rd_days_ok (hM : IsM tp M) (hMl : M ≤ tp.length) (hw : WTp tp) (hd : 9 ≤ d) (ht : q_isTw t) (hp : q_isDy p) (hs : q_Sh σ) (hD : WfD D) (hT : TNm σ t D N) (hTp : CTp σ tp) (hq : ∀ v σ', DnV tp p σ D (dyA tp N (tp.length + 1) [] 0) v σ' → Q (some (.int v)) σ') : q_Call G d 0 0 X_Rd_readDays [.ref 4, .ref t, .ref p] σ Q := by
  obtain ⟨d, rfl⟩ : ∃ d', d = d' + 1 := ⟨d - 1, by omega⟩
  have h0 := isDy_cases hp
  have h1 := isTw_cases ht
  have hl := hw.1
  have hN : WN D N := hT.2.2.1
  refine q_cii (Pp := DnV tp p σ D (dyA tp N (tp.length + 1) [] 0)) (by decide +kernel) (Nat.le_of_ble_eq_true rfl) (fun Q hv => ?_) hq
  have TN : ∀ {σ1 : q_S}, Fk (SDr p) SKl σ σ1 → TNm σ1 t D N := fun f => by
    refine ⟨hT.1, hT.2.1, hT.2.2.1, hT.2.2.2.1.keep (fun i => f.2.2.2 _ _ (fun z => by unfold SKl at z; omega)) (fun i => f.2.2.2 _ _ (fun z => by unfold SKl at z; omega)), ?_, ?_⟩
    · rw [f.2.2.1 _ _ (fun z => by unfold SDr at z; omega)]; exact hT.2.2.2.2.1
    · rw [f.2.2.1 _ _ (fun z => by unfold SDr at z; omega)]; exact hT.2.2.2.2.2
  have stop : ∀ (l3 : Int32) (σ1 : q_S), q_Sh σ1 → Q (some (.int (q_I σ1 3 9))) σ1 → q_At G X_Rd_readDays (d + 1) 0 0 17 [some (.ref 4), some (.ref t), some (.ref p), some (.int 0), some (.int l3)] [] σ1 Q := fun l3 σ1 hs1 q => v_Rd_readDays_17 hs1 ⟨fun _ => q, fun _ => ⟨fun _ => q, fun z => absurd rfl z⟩⟩
  have lp : ∀ n dy i c σ1, M - i < n → c ≤ i → i ≤ M → q_Sh σ1 → CK σ1 tp i → q_I σ1 3 9 = 0 → CY σ1 p dy → WY D dy → Fk (SDr p) SKl σ σ1 → (∀ v σ', DnV tp p σ D (dyA tp N n dy i) v σ' → Q (some (.int v)) σ') → q_At G X_Rd_readDays (d + 1) 0 0 17 [some (.ref 4), some (.ref t), some (.ref p), some (.int 1), some (.int (nI c))] [] σ1 Q := by
    intro n
    induction n with
    | zero => intro dy i c σ1 hn; omega
    | succ n ih =>
      intro dy i c σ1 hn hc hi hs1 hK hz hY hWY f1 hv
      rw [dyA] at hv
      have e0 : (q_I σ1 3 1 = 0) ↔ (tk tp i).1 = 0 := hK.s1 (n := 0) (by decide)
      have fin : (tk tp i).1 = 0 → Q (some (.int (q_I σ1 3 9))) σ1 := fun z => by
        rw [if_pos z] at hv
        rw [hz]
        exact hv _ _ ⟨f1, Or.inl ⟨rfl, rfl, hY, hWY⟩⟩
      refine v_Rd_readDays_17 hs1 ⟨fun c0 => fin ?_, fun _ => ⟨fun z => absurd z (by decide), fun _ => ⟨fun z => fin (e0.mp z), fun z => ?_⟩⟩⟩
      · have : ¬ c < 1000 := fun z => nI_ge (a := c) (b := 1000) z (by decide) c0
        have : i = M := by omega
        rw [this, tk_end hM]
      · rw [e0] at z
        rw [if_neg z] at hv
        refine Rd_dline_ok hw (by omega) ht hp hs1 hK hz (TN f1) hY hWY.1 (fun v σ2 hV => ?_)
        rcases hV with ⟨r0, rfl, f2, k2, z2, Y2⟩ | ⟨r0, rfl, f2, z2⟩
        · obtain ⟨x1, x2, x3⟩ := WY_A hM hi hD hN hWY r0
          rw [if_pos r0] at hv
          have hs2 := f2.sh hs1
          have F2 := f1.tr f2
          refine ⟨hs2, _, rfl, fun z => absurd z (by decide), fun _ => ?_⟩
          refine Tk_takeSign_ok (w := 59) (by omega) (by decide) hs2 hw k2 (fun c3 σ3 f3 k3 => ⟨f3.sh hs2, _, rfl, ?_⟩) (fun c3 σ3 f3 z3 => ⟨f3.sh hs2, _, rfl, ?_⟩)
          · rw [if_pos c3] at hv
            have hi3 := tk_s hM x3 c3
            rw [nI_1]
            exact ih _ _ (c + 1) σ3 (by omega) (by omega) hi3 (f3.sh hs2) k3 (f39 f3 z2) (Y2.k f3 (fun a j z => by unfold SKa at z; omega)) x1 (F2.tr (DAt f3)) hv
          · rw [if_neg c3] at hv
            refine stop _ σ3 (f3.sh hs2) ?_
            rw [z3]
            exact hv _ _ ⟨F2.tr (D9t f3), Or.inr ⟨(by decide : (1 : Nat) ≠ 0), rfl⟩⟩
        · rw [if_neg r0] at hv
          have hs2 := f2.sh hs1
          refine ⟨hs2, _, rfl, fun _ => stop _ σ2 hs2 ?_, fun z => absurd rfl z⟩
          rw [z2]
          exact hv _ _ ⟨f1.tr f2, Or.inr ⟨r0, rfl⟩⟩
  have f0 : Fk (SDr p) SKl σ (q_setI σ p 4 0) := (Fr.setI (Or.inr (Or.inr ⟨by omega, by omega⟩))).k
  have hT0 : CTp (q_setI σ p 4 0) tp := hTp.k f0 (fun a i z => by unfold SDr at z; omega)
  refine v_Rd_readDays_0 ht hp hs (Tk_start_ok (by omega) (f0.sh hs) hw hT0 (fun σ1 f1 k1 z1 => ⟨f1.sh (f0.sh hs), rfl, ?_⟩))
  have F1 : Fk (SDr p) SKl σ σ1 := f0.tr (f1.mono (fun a j z => Or.inl z) (fun a j z => z))
  exact lp (tp.length + 1) [] 0 0 σ1 (by omega) (Nat.le_refl _) (Nat.zero_le _) (F1.sh hs) k1 z1 ⟨by rw [f1.2.2.1 _ _ (fun z => by unfold SKc at z; omega), q_I_eq]; rfl, fun k x hx => absurd hx (by simp)⟩ ⟨Nat.zero_le _, fun x hx => absurd hx List.not_mem_nil⟩ F1 hv
theorem W_days_ok (hM : IsM tp M) (hMl : M ≤ tp.length) (hd : 10 ≤ d) (hs : q_Sh σ) (hw : WJ D P N hm L un mk tl dy tp) (hJ : CJ σ t p D P N L un mk tl dy tp)
    (hq1 : (dyA tp N (tp.length + 1) [] 0).1 = 0 → ∀ σ' p', Fq σ σ' → WY D (dyA tp N (tp.length + 1) [] 0).2.2 → CJ σ' t p' D P N L un mk tl (dyA tp N (tp.length + 1) [] 0).2.2 [] → Q (some (.int 0)) σ')
    (hq0 : (dyA tp N (tp.length + 1) [] 0).1 ≠ 0 → ∀ σ', Fq σ σ' → CJ σ' t p D P N L un mk tl dy [] → Q (some (.int (nI (flt tp (dyA tp N (tp.length + 1) [] 0).1 (dyA tp N (tp.length + 1) [] 0).2.1)))) σ') : q_Call G d 0 0 X_W_days [.ref 0] σ Q := by
  obtain ⟨d, rfl⟩ : ∃ d', d = d' + 1 := ⟨d - 1, by omega⟩
  generalize hr : dyA tp N (tp.length + 1) [] 0 = r at *
  refine q_cii (Pp := fun v σ' => (r.1 = 0 ∧ v = 0 ∧ ∃ p', Fq σ σ' ∧ WY D r.2.2 ∧ CJ σ' t p' D P N L un mk tl r.2.2 []) ∨ (r.1 ≠ 0 ∧ v = nI (flt tp r.1 r.2.1) ∧ Fq σ σ' ∧ CJ σ' t p D P N L un mk tl dy [])) (by decide +kernel) (Nat.le_of_ble_eq_true rfl) (fun Q hv => ?_) (fun v σ' h => by
    rcases h with ⟨a, b, p', c, e, f⟩ | ⟨a, b, c, e⟩
    · rw [b]; exact hq1 a σ' p' c e f
    · rw [b]; exact hq0 a σ' c e)
  have htp := hw.2.2.2.2.2.2.2.2.2
  have hl := htp.1
  obtain ⟨⟨a1, a2, t2, a3, a4, a5⟩, ⟨b1, b2, p2, b3, b4, b5⟩, c3, c4, c5, c6, c7, c8, c9, c10⟩ := hJ.1
  have ht := isTw_cases a2
  have hp := isDy_cases b2
  have hp2 := isDy_cases b4
  have hTN : TNm σ t D N := ⟨hw.1.2.1, hw.1.F6, hw.2.2.2.1, c4, c3.1.1.1, c3.1.1.2.1⟩
  refine v_W_days_0 hs ⟨t, a1, a2, p2, b3, b4, Rd_days_ok hM hMl htp (by omega) a2 b4 hs hw.1 hTN c10 (fun v σ4 hV => ?_)⟩
  obtain ⟨f4, hV⟩ := hV
  have hs4 := f4.sh hs
  have hq5 : Fq σ (q_setI σ4 1 1 0) := ⟨hs4, fun a i z => ⟨by rw [q_I_ne (by omega)]; exact f4.2.2.1 _ _ (fun y => by unfold SDr at y; omega), by rw [q_L_setI]; exact f4.2.2.2 _ _ (fun y => by unfold SKl at y; omega)⟩⟩
  have J5 : CJ (q_setI σ4 1 1 0) t p D P N L un mk tl dy [] := by
    refine hJ.rd hw f4 (fun a i z => ?_) (fun a i z => by unfold SKl at z; unfold cjL; omega) (fun a i z => by unfold SDr at z; omega) (fun a i z => by unfold SKl at z; omega)
    unfold SDr at z
    unfold cj TC
    omega
  rw [hr] at hV
  rcases hV with ⟨r0, rfl, Y4, W4⟩ | ⟨r0, rfl⟩
  · refine ⟨hs4, _, rfl, fun z => absurd rfl z, fun _ => ⟨p, (f4.2.1 0 14 (by omega)).trans b1, b2, p2, (f4.2.1 0 15 (by omega)).trans b3, b4, ?_⟩⟩
    have hs6 : q_Sh (q_setR (q_setR (q_setI σ4 1 1 0) 0 14 (some p2)) 0 15 (some p)) := Sh_setR (by decide) (Sh_setR (by decide) hs4)
    obtain ⟨⟨⟨a1', a2', t2', a3', a4', a5'⟩, _, c3', c4', c5', c6', c7', c8', c9', c10'⟩, cK'⟩ := J5
    refine hv _ _ (Or.inl ⟨r0, rfl, p2, ⟨hs6, hq5.2⟩, W4, ⟨⟨⟨?_, a2', t2', ?_, a4', a5'⟩, ⟨?_, b4, p, q_R_at, b2, fun z => b5 z.symm⟩, c3', c4', c5', c6', c7', c8', ?_, c10'⟩, cK'⟩⟩)
    · rw [q_setR_R, if_neg (by decide), q_setR_R, if_neg (by decide)]; exact a1'
    · rw [q_setR_R, if_neg (by decide), q_setR_R, if_neg (by decide)]; exact a3'
    · rw [q_setR_R, if_neg (by decide), q_R_at]
    · refine ⟨?_, fun k x hx => ?_⟩
      · show q_I (q_setI σ4 1 1 0) p2 4 = _
        rw [q_I_ne (by omega)]; exact Y4.1
      · show q_I (q_setI σ4 1 1 0) (p2 + 1) k = _ ∧ q_I (q_setI σ4 1 1 0) (p2 + 2) k = _ ∧ q_I (q_setI σ4 1 1 0) (p2 + 3) k = _ ∧ q_I (q_setI σ4 1 1 0) (p2 + 4) k = _
        rw [q_I_ne (by omega), q_I_ne (by omega), q_I_ne (by omega), q_I_ne (by omega)]; exact Y4.2 k x hx
  · have r9 : r.1 ≤ 9 := by rw [← hr]; exact dyA_le _ _ _
    exact ⟨hs4, _, rfl, fun _ => hv _ _ (Or.inr ⟨r0, rfl, hq5, J5⟩), fun z => absurd z (flt_ne hl r0 r9)⟩
end WDAYS
