def SRt (t : Nat) : Nat → Nat → Prop := fun a _ => a = 3 ∨ a = 4 ∨ (t ≤ a ∧ a ≤ t + 18)
def LRt (t : Nat) : Nat → Nat → Prop := fun a i => (a = 3 ∧ i = 5) ∨ (t ≤ a ∧ a ≤ t + 18)
def RdP (tp : List Nat) (t M : Nat) (σ : q_S) (s : q_ts) (S : List Int32) (i : Nat) : Prop := q_Sh σ ∧ CK σ tp i ∧ CTr σ t s S ∧ S.length ≤ 15 + i ∧ q_I σ 3 9 = 0 ∧ i ≤ M
def RdV (tp : List Nat) (t : Nat) (σ : q_S) (r : q_lr) (v : Int32) (σ' : q_S) : Prop := (r.1 = 0 ∧ v = 1 ∧ Fk (SRt t) (LRt t) σ σ' ∧ CK σ' tp r.2.1 ∧ q_I σ' 3 9 = 0 ∧ ∃ S, CTr σ' t r.2.2 S ∧ S.length ≤ 15 + r.2.1) ∨ (r.1 ≠ 0 ∧ v = 0 ∧ Fk (SRt t) (LRt t) σ σ' ∧ q_I σ' 3 9 = nI (flt tp r.1 r.2.1))
theorem cl8 {t k : Nat} (h : k < 36) : cloc t (8 + k) = (t + 7, k) := by
  rcases cloc_cases t (show 8 + k < 176 by omega) (by omega) with ⟨a, e⟩ | ⟨a, b, e⟩ | ⟨a, b, e⟩ | ⟨a, b, e⟩ | ⟨a, b, e⟩ | ⟨a, e⟩ <;> first | omega | (rw [e, show 8 + k - 8 = k by omega])
theorem cl68 {t k : Nat} (h : k < 36) : cloc t (68 + k) = (t + 8, k) := by
  rcases cloc_cases t (show 68 + k < 176 by omega) (by omega) with ⟨a, e⟩ | ⟨a, b, e⟩ | ⟨a, b, e⟩ | ⟨a, b, e⟩ | ⟨a, b, e⟩ | ⟨a, e⟩ <;> first | omega | (rw [e, show 68 + k - 68 = k by omega])
theorem cl104 {t k : Nat} (h : k < 36) : cloc t (104 + k) = (t + 9, k) := by
  rcases cloc_cases t (show 104 + k < 176 by omega) (by omega) with ⟨a, e⟩ | ⟨a, b, e⟩ | ⟨a, b, e⟩ | ⟨a, b, e⟩ | ⟨a, b, e⟩ | ⟨a, e⟩ <;> first | omega | (rw [e, show 104 + k - 104 = k by omega])
theorem cl140 {t k : Nat} (h : k < 36) : cloc t (140 + k) = (t + 10, k) := by
  rcases cloc_cases t (show 140 + k < 176 by omega) (by omega) with ⟨a, e⟩ | ⟨a, b, e⟩ | ⟨a, b, e⟩ | ⟨a, b, e⟩ | ⟨a, b, e⟩ | ⟨a, e⟩ <;> first | omega | (rw [e, show 140 + k - 140 = k by omega])
section CLINES
variable {G : q_G} {d : Nat} {σ σ' σ1 : q_S} {Q : Option Value → q_S → Prop} {tp : List Nat} {i t M : Nat} {s : q_ts} {S : List Int32}
theorem CTr.upd {j v : Nat} (h : CTr σ t s S) (hj : j < 176) (hj8 : j < 5 ∨ 8 ≤ j) (h1 : j ≠ 1) (h3 : j ≠ 3) (h4 : j ≠ 4) {a b : Nat} (e : cloc t j = (a, b)) : CTr (q_setI σ a b (nI v)) t (updN s.1 j v, s.2) S := by
  obtain ⟨c1, c2, c3, c4, c5⟩ := h
  have hin := cloc_in (t := t) hj hj8
  have e1 := c1.set (v := v) hj hj8
  rw [e] at hin e1
  have hin : (a = t ∧ 13 ≤ b ∧ b < 18) ∨ (t + 3 ≤ a ∧ a ≤ t + 10) := hin
  refine ⟨?_, ⟨fun k hk => ?_, fun k hk => ?_⟩, c3, ⟨by rw [q_I_ne (by omega)]; exact c4.1, fun k hk => by rw [q_I_ne (by omega)]; exact c4.2 k hk⟩, fun w hw => ?_⟩
  · show CTd _ t (updN s.1 j v) (updN s.1 j v 1)
    rw [updN_ne (Ne.symm h1)]
    exact e1
  · have hk : k < updN s.1 j v 3 := hk
    rw [updN_ne (Ne.symm h3)] at hk
    show _ = pbit (updN s.1 j v (176 + 2 * k)) (updN s.1 j v (177 + 2 * k))
    rw [updN_ne (by omega), updN_ne (by omega)]
    exact c2.1 k hk
  · have hk : k < updN s.1 j v 4 := hk
    rw [updN_ne (Ne.symm h4)] at hk
    show _ = pbit (updN s.1 j v (184 + 2 * k)) (updN s.1 j v (185 + 2 * k))
    rw [updN_ne (by omega), updN_ne (by omega)]
    exact c2.2 k hk
  · rw [q_I_ne (by omega), q_I_ne (by omega), q_I_ne (by omega)]
    exact c5 w hw
theorem RdV.bad {k j : Nat} {r : q_lr} (e : r = (k, j, s)) (hk : k ≠ 0) (hf : Fk (SRt t) (LRt t) σ σ') (h : q_I σ' 3 9 = nI (flt tp k j)) : RdV tp t σ r 0 σ' := by
  subst e
  exact Or.inr ⟨hk, rfl, hf, h⟩
theorem F4t (hf : Fk S4 SKl σ σ') : Fk (SRt t) (LRt t) σ σ' := hf.mono (fun a j z => by unfold S4 at z; unfold SRt; omega) (fun a j z => Or.inl z)
theorem FAt (hf : Fk SKa SKl σ σ') : Fk (SRt t) (LRt t) σ σ' := hf.mono (fun a j z => Or.inl z.1) (fun a j z => Or.inl z)
theorem FBt (hf : Fk SKb SKl σ σ') : Fk (SRt t) (LRt t) σ σ' := hf.mono (fun a j z => Or.inl z.1) (fun a j z => Or.inl z)
theorem F9t (hf : Fr S39 noL σ σ') : Fk (SRt t) (LRt t) σ σ' := hf.k.mono (fun a j z => Or.inl z.1) (fun _ _ z => z.elim)
theorem FIt {a b : Nat} {v : Int32} (h : t ≤ a ∧ a ≤ t + 18) : Fk (SRt t) (LRt t) σ (q_setI σ a b v) := (Fr.setI (Or.inr (Or.inr h))).k
theorem FLt {a b : Nat} {v : Int64} (h : t ≤ a ∧ a ≤ t + 18) : Fk (SRt t) (LRt t) σ (q_setL σ a b v) := (Fr.setL (Or.inr h)).k
theorem CK.it (ht : q_isTw t) {a b : Nat} {v : Int32} (h : t ≤ a ∧ a ≤ t + 18) (hK : CK σ tp i) : CK (q_setI σ a b v) tp i := by
  have h0 := isTw_cases ht
  exact hK.k (SI := fun x y => x = a ∧ y = b) (SL := noL) (Fr.setI ⟨rfl, rfl⟩) (fun x y z => by omega) (fun _ _ z => z.elim)
theorem CK.lt (ht : q_isTw t) {a b : Nat} {v : Int64} (h : t ≤ a ∧ a ≤ t + 18) (hK : CK σ tp i) : CK (q_setL σ a b v) tp i := by
  have h0 := isTw_cases ht
  exact hK.k (SI := noL) (SL := fun x y => x = a ∧ y = b) (Fr.setL ⟨rfl, rfl⟩) (fun _ _ z => z.elim) (fun x y z => by omega)
theorem lt27A {a j : Nat} (z : SKa a j) : a < 27 := by unfold SKa at z; omega
theorem lt27B {a j : Nat} (z : SKb a j) : a < 27 := by unfold SKb at z; omega
theorem lt27l {a j : Nat} (z : SKl a j) : a < 27 := by unfold SKl at z; omega
theorem lt27s {a j : Nat} (z : S4 a j) : a < 27 := by unfold S4 at z; omega
theorem f39t (ht : q_isTw t) {a b : Nat} {v : Int32} (h : t ≤ a ∧ a ≤ t + 18) (hz : q_I σ 3 9 = 0) : q_I (q_setI σ a b v) 3 9 = 0 := by
  have h0 := isTw_cases ht
  rw [q_I_ne (by omega)]
  exact hz
theorem f39b (hf : Fk SKb SKl σ σ') (h : q_I σ 3 9 = 0) : q_I σ' 3 9 = 0 := by rw [hf.2.2.1 _ _ (fun z => absurd z.2 (by decide))]; exact h
theorem tk_w_in {w : Nat} (hM : IsM tp M) (hi : i ≤ M) (h : (tk tp i).1 ≠ 0) : i < M := tk_in hM hi h
-- house
theorem CTr.house {l : List Nat} (ht : q_isTw t) (h : CTr σ t s S) (hW : WS s) (h6 : s.1 0 < 6) : CTr (q_setI (q_setL σ (t + 1) (s.1 0) (lN (e32 l))) t 13 (nI (s.1 0 + 1))) t (updN s.1 0 (s.1 0 + 1), s.2.1, s.2.2.1, s.2.2.2 ++ [(l, s.1 0)]) S := by
  have h0 := isTw_cases ht
  have h1 : CTr (q_setL σ (t + 1) (s.1 0) (lN (e32 l))) t (s.1, s.2.1, s.2.2.1, s.2.2.2 ++ [(l, s.1 0)]) S := by
    obtain ⟨c1, c2, c3, c4, c5⟩ := h
    refine ⟨c1, ⟨fun k hk => by rw [q_L_ne (by omega)]; exact c2.1 k hk, fun k hk => by rw [q_L_ne (by omega)]; exact c2.2 k hk⟩, fun x hx => ?_, c4, c5⟩
    rcases List.mem_append.mp hx with hx | hx
    · have h2 := c3 x hx
      have h3 := (hW.2.2.1.2.1 x hx).1
      refine ⟨fun z => ?_, fun z => ?_⟩
      · rw [q_L_ne (by omega)]; exact h2.1 z
      · rw [q_L_ne (by omega)]; exact h2.2 z
    · rw [List.mem_singleton] at hx
      subst hx
      exact ⟨fun _ => q_L_eq, fun z => by have z : 20 ≤ s.1 0 := z; omega⟩
  exact h1.upd (j := 0) (by decide) (by decide) (by decide) (by decide) (by decide) rfl
theorem Rd_house_ok (hM : IsM tp M) (hw : WTp tp) (hd : 7 ≤ d) (ht : q_isTw t) (hP : RdP tp t M σ s S i) (hW : WS s) (hq : ∀ v σ', RdV tp t σ (lnH tp s i) v σ' → Q (some (.int v)) σ') : q_Call G d 0 0 X_Rd_readHouse [.ref 4, .ref t] σ Q := by
  obtain ⟨d, rfl⟩ : ∃ d', d = d' + 1 := ⟨d - 1, by omega⟩
  obtain ⟨hs, hK, hT, h15, hz, hi⟩ := hP
  have h0 := isTw_cases ht
  refine q_cii (Pp := RdV tp t σ (lnH tp s i)) (by decide +kernel) (Nat.le_of_ble_eq_true rfl) (fun Q hv => ?_) hq
  have e13 : q_I σ t 13 = nI (s.1 0) := hT.1.v (i := 0) (by decide) (by decide) (by omega) rfl
  have h6 := hW.1.2.1
  have l6 : (q_I σ t 13 < 6) ↔ s.1 0 < 6 := by rw [e13]; exact nI_ltI (b := 6) (by omega) (by decide)
  refine v_Rd_readHouse_0 ht hs ⟨fun c => ?_, fun c => ?_⟩
  · rw [l6] at c
    refine Tk_next (by omega) hs hw hK (fun σ1 f1 k1 => ⟨f1.sh hs, rfl, ?_⟩)
    have hs1 := f1.sh hs
    have T1 := hT.k ht f1 (fun a j z => lt27A z) (fun a j z => lt27l z)
    refine Rd_new_ok (by omega) ht hs1 k1 (T1.nm hW) (fun e => ⟨hs1, _, rfl, fun _ => ?_, fun z => absurd z (by decide)⟩) (fun e σ2 f2 z2 => ⟨f2.sh hs1, _, rfl, fun z => absurd rfl z, fun _ => hv _ _ (RdV.bad (by unfold lnH; rw [if_neg (by omega), if_neg e]) e ((FAt f1).tr (F9t f2)) z2)⟩)
    have hn : isNm (tk tp (i + 1)) = true := by
      refine Classical.byContradiction (fun z => ?_)
      unfold nwF at e
      rw [if_neg z] at e
      exact absurd e (by decide)
    have eL : q_L σ1 3 5 = lN (e32 (tk tp (i + 1)).2.2.2) := (k1.2.2.2.2.1 (isNm_t.mp hn).1).1
    have e1 : q_I σ1 t 13 = nI (s.1 0) := T1.1.v (i := 0) (by decide) (by decide) (by omega) rfl
    refine ⟨s.1 0, e1, c, ?_⟩
    rw [q_I_setL, e1, nI_1, eL]
    have T2 := T1.house (l := (tk tp (i + 1)).2.2.2) ht hW c
    have K2 : CK (q_setI (q_setL σ1 (t + 1) (s.1 0) (lN (e32 (tk tp (i + 1)).2.2.2))) t 13 (nI (s.1 0 + 1))) tp (i + 1) := (k1.lt ht (t := t) ⟨by omega, by omega⟩).it ht (t := t) ⟨by omega, by omega⟩
    have F2 : Fk (SRt t) (LRt t) σ (q_setI (q_setL σ1 (t + 1) (s.1 0) (lN (e32 (tk tp (i + 1)).2.2.2))) t 13 (nI (s.1 0 + 1))) := ((FAt f1).tr (FLt ⟨by omega, by omega⟩)).tr (FIt ⟨by omega, by omega⟩)
    have hs2 := F2.sh hs
    have z2 : q_I (q_setI (q_setL σ1 (t + 1) (s.1 0) (lN (e32 (tk tp (i + 1)).2.2.2))) t 13 (nI (s.1 0 + 1))) 3 9 = 0 := f39t ht ⟨by omega, by omega⟩ (f39 f1 hz : q_I σ1 3 9 = 0)
    have eR : lnH tp s i = (0, i + 2, (updN s.1 0 (s.1 0 + 1), s.2.1, s.2.2.1, s.2.2.2 ++ [((tk tp (i + 1)).2.2.2, s.1 0)])) := by unfold lnH; rw [if_neg (by omega), if_pos e]
    refine Tk_next (by omega) hs2 hw K2 (fun σ3 f3 k3 => ⟨f3.sh hs2, rfl, hv _ _ ?_⟩)
    rw [eR]
    exact Or.inl ⟨rfl, rfl, F2.tr (FAt f3), k3, f39 f3 z2, S, T2.k ht f3 (fun a j z => lt27A z) (fun a j z => lt27l z), by show S.length ≤ 15 + (i + 2); omega⟩
  · rw [l6] at c
    exact Tk_refuse_ok (k := 5) hs hK (fun σ1 f1 z1 => ⟨f1.sh hs, _, rfl, rfl, hv _ _ (RdV.bad (by unfold lnH; rw [if_pos (by omega)]) (by decide) (F9t f1) z1)⟩)
-- walls
theorem Rd_wall_ok (hM : IsM tp M) (hw : WTp tp) (hd : 8 ≤ d) (ht : q_isTw t) (hP : RdP tp t M σ s S i) (hW : WS s) (hq : ∀ v σ', RdV tp t σ (lnW tp s i) v σ' → Q (some (.int v)) σ') : q_Call G d 0 0 X_Rd_readWall [.ref 4, .ref t] σ Q := by
  obtain ⟨d, rfl⟩ : ∃ d', d = d' + 1 := ⟨d - 1, by omega⟩
  obtain ⟨hs, hK, hT, h15, hz, hi⟩ := hP
  have h0 := isTw_cases ht
  have h6 := hW.1.2.1
  refine q_cii (Pp := RdV tp t σ (lnW tp s i)) (by decide +kernel) (Nat.le_of_ble_eq_true rfl) (fun Q hv => ?_) hq
  refine v_Rd_readWall_0 ht hs (Tk_next (by omega) hs hw hK (fun σ1 f1 k1 => ⟨f1.sh hs, rfl, ?_⟩))
  have hs1 := f1.sh hs
  have T1 := hT.k ht f1 (fun a j z => lt27A z) (fun a j z => lt27l z)
  refine Rd_two_ok (b := 0) (Or.inl ⟨rfl, rfl⟩) (by omega) ht hs1 hw k1 (f39 f1 hz) (T1.nm hW) (fun e σ2 f2 k2 g1 g2 z2 => ⟨f2.sh hs1, _, rfl, fun _ => ?_, fun z => absurd z (by decide)⟩) (fun e σ2 f2 z2 => ⟨f2.sh hs1, _, rfl, fun z => absurd rfl z, fun _ => hv _ _ (RdV.bad (by unfold lnW; rw [if_neg e]) e ((FAt f1).tr (F4t f2)) z2)⟩)
  have hs2 := f2.sh hs1
  have T2 := T1.k ht f2 (fun a j z => lt27s z) (fun a j z => lt27l z)
  have F2 : Fk (SRt t) (LRt t) σ σ2 := (FAt f1).tr (F4t f2)
  have eE := e
  unfold twF at e
  by_cases ea : tdF s.2.2.2 0 (tk tp (i + 1)) = 0
  · rw [if_pos ea] at e
    by_cases eb : tdF s.2.2.2 0 (tk tp (i + 1 + 1)) = 0
    · rw [if_pos eb] at e
      have a6 := ((tdX_lt (T := tk tp (i + 1)) hW.1 hW.2.2.1).1 ea).1
      have b6 := ((tdX_lt (T := tk tp (i + 1 + 1)) hW.1 hW.2.2.1).1 eb).1
      rw [show i + 1 + 1 = i + 2 from rfl] at b6 g2
      have ek : q_I σ2 4 1 * 6 + q_I σ2 4 2 = nI (tdX s.2.2.2 0 (tk tp (i + 1)) * 6 + tdX s.2.2.2 0 (tk tp (i + 2))) := by rw [g1, g2, q_mul6]
      have lnW0 : ∀ r, (if s.1 (8 + (tdX s.2.2.2 0 (tk tp (i + 1)) * 6 + tdX s.2.2.2 0 (tk tp (i + 2)))) = 0 then (if nmF (tk tp (i + 3)) 1 9 = 0 then (0, i + 4, (wlD s.1 (tdX s.2.2.2 0 (tk tp (i + 1))) (tdX s.2.2.2 0 (tk tp (i + 2))) (tk tp (i + 3)).2.2.1, s.2)) else (nmF (tk tp (i + 3)) 1 9, i + 3, s)) else (3, i + 2, s)) = r → lnW tp s i = r := fun r h => by
        unfold lnW
        rw [if_pos eE]
        exact h
      generalize tdX s.2.2.2 0 (tk tp (i + 1)) = A at *
      generalize tdX s.2.2.2 0 (tk tp (i + 2)) = B at *
      have ev : q_I σ2 (t + 7) (A * 6 + B) = nI (s.1 (8 + (A * 6 + B))) := T2.1.v (by omega) (by omega) (by omega) (cl8 (by omega))
      have h9 : s.1 (8 + (A * 6 + B)) ≤ 9 := hW.1.2.2.2.2.2.2.1 _ (by omega)
      have e0 : (q_I σ2 (t + 7) (A * 6 + B) = 0) ↔ s.1 (8 + (A * 6 + B)) = 0 := by rw [ev, ← nI_0]; exact nI_eq (by omega) (by omega)
      refine ⟨A * 6 + B, ek, by omega, fun c => ?_, fun c => ?_⟩
      · rw [e0] at c
        refine Tk_next (by omega) hs2 hw k2 (fun σ3 f3 k3 => ⟨f3.sh hs2, rfl, ?_⟩)
        have hs3 := f3.sh hs2
        have T3 := T2.k ht f3 (fun a j z => lt27A z) (fun a j z => lt27l z)
        refine Tk_takeNumber_ok (lo := 1) (hi := 9) (by omega) (by decide) (by decide) hs3 hw k3 (fun en σ4 f4 k4 g4 => ⟨f4.sh hs3, _, rfl, fun _ => ?_, fun z => absurd z (by decide)⟩) (fun en σ4 f4 z4 => ⟨f4.sh hs3, _, rfl, fun z => absurd rfl z, fun _ => hv _ _ (RdV.bad (lnW0 _ (by rw [if_pos c, if_neg en])) en ((F2.tr (FAt f3)).tr (F9t f4)) z4)⟩)
        have T4 := T3.k ht f4 (fun a j z => lt27B z) (fun a j z => lt27l z)
        have g41 : q_I σ4 4 1 = nI A := by rw [f4.2.2.1 _ _ (fun z => absurd z.1 (by decide)), f3.2.2.1 _ _ (fun z => absurd z.1 (by decide))]; exact g1
        have g42 : q_I σ4 4 2 = nI B := by rw [f4.2.2.1 _ _ (fun z => absurd z.1 (by decide)), f3.2.2.1 _ _ (fun z => absurd z.1 (by decide))]; exact g2
        refine ⟨A * 6 + B, ek, by omega, B * 6 + A, ?_, by omega, hv _ _ ?_⟩
        · rw [q_I_ne (by omega), q_I_ne (by omega), g41, g42, q_mul6]
        · have g4 : q_I σ4 3 8 = nI (tk tp (i + 3)).2.2.1 := g4
          rw [g4, q_I_ne (by omega), g4]
          have U1 := T4.upd (j := 8 + (A * 6 + B)) (v := (tk tp (i + 3)).2.2.1) (by omega) (by omega) (by omega) (by omega) (by omega) (cl8 (by omega))
          have U2 := U1.upd (j := 8 + (B * 6 + A)) (v := (tk tp (i + 3)).2.2.1) (by omega) (by omega) (by omega) (by omega) (by omega) (cl8 (by omega))
          have e15 : q_I (q_setI (q_setI σ4 (t + 7) (A * 6 + B) (nI (tk tp (i + 3)).2.2.1)) (t + 7) (B * 6 + A) (nI (tk tp (i + 3)).2.2.1)) t 15 = nI (s.1 2) := by
            rw [q_I_ne (by omega), q_I_ne (by omega)]
            exact T4.1.v (i := 2) (by decide) (by decide) (by omega) rfl
          rw [e15, nI_1]
          have U3 := U2.upd (j := 2) (v := s.1 2 + 1) (by decide) (by decide) (by decide) (by decide) (by decide) rfl
          rw [lnW0 _ (by rw [if_pos c, if_pos en])]
          exact Or.inl ⟨rfl, rfl, ((((F2.tr (FAt f3)).tr (FBt f4)).tr (FIt ⟨by omega, by omega⟩)).tr (FIt ⟨by omega, by omega⟩)).tr (FIt ⟨by omega, by omega⟩), ((k4.it ht (t := t) ⟨by omega, by omega⟩).it ht (t := t) ⟨by omega, by omega⟩).it ht (t := t) ⟨by omega, by omega⟩, f39t ht ⟨by omega, by omega⟩ (f39t ht ⟨by omega, by omega⟩ (f39t ht ⟨by omega, by omega⟩ (f39b f4 (f39 f3 z2)))), S, U3, by show S.length ≤ 15 + (i + 4); omega⟩
      · rw [e0] at c
        exact Tk_refuse_ok (k := 3) hs2 k2 (fun σ3 f3 z3 => ⟨f3.sh hs2, _, rfl, rfl, hv _ _ (RdV.bad (lnW0 _ (by rw [if_neg c])) (by decide) (F2.tr (F9t f3)) z3)⟩)
    · rw [if_neg eb] at e
      exact absurd e eb
  · rw [if_neg ea] at e
    exact absurd e ea
theorem Rd_ofTwo_ok {b hi0 u : Nat} (hM : IsM tp M) (hw : WTp tp) (hd : 8 ≤ d) (ht : q_isTw t) (hb : (b = 68 ∧ u = 8 ∧ hi0 = 9) ∨ (b = 104 ∧ u = 9 ∧ hi0 = 9) ∨ (b = 140 ∧ u = 10 ∧ hi0 = 99)) (hP : RdP tp t M σ s S i) (hW : WS s) (hq : ∀ v σ', RdV tp t σ (lnT tp s b hi0 i) v σ' → Q (some (.int v)) σ') : q_Call G d 0 0 X_Rd_readOfTwo [.ref 4, .ref t, .ref (t + u), .int (nI hi0)] σ Q := by
  obtain ⟨d, rfl⟩ : ∃ d', d = d' + 1 := ⟨d - 1, by omega⟩
  obtain ⟨hs, hK, hT, h15, hz, hi⟩ := hP
  have h0 := isTw_cases ht
  have h6 := hW.1.F6
  have hu : q_kd (t + u) = (1, 36) := by
    rcases hb with ⟨_, z, _⟩ | ⟨_, z, _⟩ | ⟨_, z, _⟩ <;> subst z
    · exact kd_Tw_8 ht
    · exact kd_Tw_9 ht
    · exact kd_Tw_10 ht
  have cl : ∀ k, k < 36 → cloc t (b + k) = (t + u, k) := fun k hk => by
    rcases hb with ⟨y, z, _⟩ | ⟨y, z, _⟩ | ⟨y, z, _⟩ <;> subst y z
    · exact cl68 hk
    · exact cl104 hk
    · exact cl140 hk
  have h99 : ∀ k, k < 36 → s.1 (b + k) ≤ 99 := fun k hk => by
    have := hW.1.2.2.2.2.2.2.2.2.1 k hk
    rcases hb with ⟨y, _, _⟩ | ⟨y, _, _⟩ | ⟨y, _, _⟩ <;> subst y <;> omega
  refine q_cii (Pp := RdV tp t σ (lnT tp s b hi0 i)) (by decide +kernel) (Nat.le_of_ble_eq_true rfl) (fun Q hv => ?_) hq
  refine v_Rd_readOfTwo_0 ht hu hs (Tk_next (by omega) hs hw hK (fun σ1 f1 k1 => ⟨f1.sh hs, rfl, ?_⟩))
  have hs1 := f1.sh hs
  have T1 := hT.k ht f1 (fun a j z => lt27A z) (fun a j z => lt27l z)
  refine Rd_two_ok (b := 20) (Or.inr ⟨rfl, rfl⟩) (by omega) ht hs1 hw k1 (f39 f1 hz) (T1.nm hW) (fun e σ2 f2 k2 g1 g2 z2 => ⟨f2.sh hs1, _, rfl, fun _ => ?_, fun z => absurd z (by decide)⟩) (fun e σ2 f2 z2 => ⟨f2.sh hs1, _, rfl, fun z => absurd rfl z, fun _ => hv _ _ (RdV.bad (by unfold lnT; rw [if_neg e]) e ((FAt f1).tr (F4t f2)) z2)⟩)
  have hs2 := f2.sh hs1
  have T2 := T1.k ht f2 (fun a j z => lt27s z) (fun a j z => lt27l z)
  have F2 : Fk (SRt t) (LRt t) σ σ2 := (FAt f1).tr (F4t f2)
  have eE := e
  unfold twF at e
  by_cases ea : tdF s.2.2.2 20 (tk tp (i + 1)) = 0
  · rw [if_pos ea] at e
    by_cases eb : tdF s.2.2.2 20 (tk tp (i + 1 + 1)) = 0
    · rw [if_pos eb] at e
      have a6 := ((tdX_lt (T := tk tp (i + 1)) hW.1 hW.2.2.1).2 ea).1
      have b6 := ((tdX_lt (T := tk tp (i + 1 + 1)) hW.1 hW.2.2.1).2 eb).1
      rw [show i + 1 + 1 = i + 2 from rfl] at b6 g2
      have ek : q_I σ2 4 1 * 6 + q_I σ2 4 2 = nI (tdX s.2.2.2 20 (tk tp (i + 1)) * 6 + tdX s.2.2.2 20 (tk tp (i + 2))) := by rw [g1, g2, q_mul6]
      have ln0 : ∀ r, (if s.1 (b + (tdX s.2.2.2 20 (tk tp (i + 1)) * 6 + tdX s.2.2.2 20 (tk tp (i + 2)))) = 0 then (if nmF (tk tp (i + 3)) 1 hi0 = 0 then (0, i + 4, (updN s.1 (b + (tdX s.2.2.2 20 (tk tp (i + 1)) * 6 + tdX s.2.2.2 20 (tk tp (i + 2)))) (tk tp (i + 3)).2.2.1, s.2)) else (nmF (tk tp (i + 3)) 1 hi0, i + 3, s)) else (3, i + 2, s)) = r → lnT tp s b hi0 i = r := fun r h => by
        unfold lnT
        rw [if_pos eE]
        exact h
      generalize tdX s.2.2.2 20 (tk tp (i + 1)) = A at *
      generalize tdX s.2.2.2 20 (tk tp (i + 2)) = B at *
      have ev : q_I σ2 (t + u) (A * 6 + B) = nI (s.1 (b + (A * 6 + B))) := T2.1.v (by omega) (by omega) (by omega) (cl _ (by omega))
      have h9 := h99 (A * 6 + B) (by omega)
      have e0 : (q_I σ2 (t + u) (A * 6 + B) = 0) ↔ s.1 (b + (A * 6 + B)) = 0 := by rw [ev, ← nI_0]; exact nI_eq (by omega) (by omega)
      refine ⟨A * 6 + B, ek, by omega, fun c => ?_, fun c => ?_⟩
      · rw [e0] at c
        refine Tk_next (by omega) hs2 hw k2 (fun σ3 f3 k3 => ⟨f3.sh hs2, rfl, ?_⟩)
        have hs3 := f3.sh hs2
        have T3 := T2.k ht f3 (fun a j z => lt27A z) (fun a j z => lt27l z)
        refine Tk_takeNumber_ok (lo := 1) (hi := hi0) (by omega) (by decide) (by omega) hs3 hw k3 (fun en σ4 f4 k4 g4 => ⟨f4.sh hs3, _, rfl, fun _ => ?_, fun z => absurd z (by decide)⟩) (fun en σ4 f4 z4 => ⟨f4.sh hs3, _, rfl, fun z => absurd rfl z, fun _ => hv _ _ (RdV.bad (ln0 _ (by rw [if_pos c, if_neg en])) en ((F2.tr (FAt f3)).tr (F9t f4)) z4)⟩)
        have T4 := T3.k ht f4 (fun a j z => lt27B z) (fun a j z => lt27l z)
        refine ⟨A * 6 + B, ek, by omega, hv _ _ ?_⟩
        have g4 : q_I σ4 3 8 = nI (tk tp (i + 3)).2.2.1 := g4
        rw [g4]
        have U1 := T4.upd (j := b + (A * 6 + B)) (v := (tk tp (i + 3)).2.2.1) (by omega) (by omega) (by omega) (by omega) (by omega) (cl _ (by omega))
        rw [ln0 _ (by rw [if_pos c, if_pos en])]
        exact Or.inl ⟨rfl, rfl, ((F2.tr (FAt f3)).tr (FBt f4)).tr (FIt ⟨by omega, by omega⟩), k4.it ht (t := t) ⟨by omega, by omega⟩, f39t ht ⟨by omega, by omega⟩ (f39b f4 (f39 f3 z2)), S, U1, by show S.length ≤ 15 + (i + 4); omega⟩
      · rw [e0] at c
        exact Tk_refuse_ok (k := 3) hs2 k2 (fun σ3 f3 z3 => ⟨f3.sh hs2, _, rfl, rfl, hv _ _ (RdV.bad (ln0 _ (by rw [if_neg c])) (by decide) (F2.tr (F9t f3)) z3)⟩)
    · rw [if_neg eb] at e
      exact absurd e eb
  · rw [if_neg ea] at e
    exact absurd e ea
end CLINES
