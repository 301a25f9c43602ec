def ST_ (p2 n : Nat) : Nat → Nat → Prop := fun a j => a = 3 ∨ (a = p2 ∧ j = n)
def SF (t n : Nat) : Nat → Nat → Prop := fun a j => a = 3 ∨ (t + 3 ≤ a ∧ a ≤ t + 6 ∧ j = n) ∨ (a = t ∧ j = 14)
def LF (t n : Nat) : Nat → Nat → Prop := fun a j => (a = 3 ∧ j = 5) ∨ (a = t + 2 ∧ j = n)
section CLINES3
variable {G : q_G} {d : Nat} {σ σ' σ1 : q_S} {Q : Option Value → q_S → Prop} {tp : List Nat} {i t M : Nat} {s : q_ts} {S : List Int32}
theorem Rd_trait_ok {w hi0 p2 n : Nat} (hw34 : w < 34) (hh : hi0 < 2 ^ 31) (hp2 : q_kd p2 = (1, 6)) (h27 : 27 ≤ p2) (hn : n < 6) (hd : 8 ≤ d) (hs : q_Sh σ) (hw : WTp tp) (hK : CK σ tp i) (hz : q_I σ 3 9 = 0)
    (hq1 : (trF tp w hi0 i).1 = 0 → ∀ σ', Fk (ST_ p2 n) SKl σ σ' → CK σ' tp (i + 2) → q_I σ' 3 9 = 0 → q_I σ' p2 n = nI (tk tp (i + 1)).2.2.1 → Q (some (.int 1)) σ')
    (hq0 : (trF tp w hi0 i).1 ≠ 0 → ∀ σ', Fk (ST_ p2 n) SKl σ σ' → q_I σ' 3 9 = nI (flt tp (trF tp w hi0 i).1 (trF tp w hi0 i).2) → Q (some (.int 0)) σ') : q_Call G d 0 0 X_Rd_readTrait [.ref 4, .ref (1001 + w), .int (nI hi0), .ref p2, .int (nI n)] σ Q := by
  obtain ⟨d, rfl⟩ : ∃ d', d = d' + 1 := ⟨d - 1, by omega⟩
  refine q_cii (Pp := fun v σ' => ((trF tp w hi0 i).1 = 0 ∧ v = 1 ∧ Fk (ST_ p2 n) SKl σ σ' ∧ CK σ' tp (i + 2) ∧ q_I σ' 3 9 = 0 ∧ q_I σ' p2 n = nI (tk tp (i + 1)).2.2.1) ∨ ((trF tp w hi0 i).1 ≠ 0 ∧ v = 0 ∧ Fk (ST_ p2 n) SKl σ σ' ∧ q_I σ' 3 9 = nI (flt tp (trF tp w hi0 i).1 (trF tp w hi0 i).2))) (by decide +kernel) (Nat.le_of_ble_eq_true rfl) (fun Q hv => ?_) (fun v σ' h => by
    rcases h with ⟨a, b, c, e, f, g⟩ | ⟨a, b, c, e⟩
    · rw [b]; exact hq1 a σ' c e f g
    · rw [b]; exact hq0 a σ' c e)
  have FA : ∀ {σ1 σ2 : q_S}, Fk SKa SKl σ1 σ2 → Fk (ST_ p2 n) SKl σ1 σ2 := fun h => h.mono (fun a j z => Or.inl z.1) (fun _ _ z => z)
  have FB : ∀ {σ1 σ2 : q_S}, Fk SKb SKl σ1 σ2 → Fk (ST_ p2 n) SKl σ1 σ2 := fun h => h.mono (fun a j z => Or.inl z.1) (fun _ _ z => z)
  have F9 : ∀ {σ1 σ2 : q_S}, Fr S39 noL σ1 σ2 → Fk (ST_ p2 n) SKl σ1 σ2 := fun h => h.k.mono (fun a j z => Or.inl z.1) (fun _ _ z => z.elim)
  refine v_Rd_readTrait_0 hw34 hp2 hs (Tk_takeWord_ok (by omega) hw34 hs hw hK (fun c σ1 f1 k1 => ⟨f1.sh hs, _, rfl, fun z => absurd z (by decide), fun _ => ?_⟩) (fun c σ1 f1 z1 => ⟨f1.sh hs, _, rfl, fun _ => hv _ _ (Or.inr ?_), fun z => absurd rfl z⟩))
  · have hs1 := f1.sh hs
    refine Tk_takeNumber_ok (lo := 0) (hi := hi0) (by omega) (by decide) hh hs1 hw k1 (fun en σ2 f2 k2 g2 => ⟨f2.sh hs1, _, rfl, fun _ => ⟨fun z => absurd z (nI_pos (by omega)), fun _ => ⟨fun z => ge_not z hn (by decide), fun _ => ⟨n, rfl, hn, hv _ _ (Or.inl ?_)⟩⟩⟩, fun z => absurd z (by decide)⟩) (fun en σ2 f2 z2 => ⟨f2.sh hs1, _, rfl, fun z => absurd rfl z, fun _ => hv _ _ (Or.inr ?_)⟩)
    · refine ⟨?_, rfl, ((FA f1).tr (FB f2)).tr (Fr.setI (Or.inr ⟨rfl, rfl⟩)).k, k2.k (SI := fun a j => a = p2 ∧ j = n) (SL := noL) (Fr.setI ⟨rfl, rfl⟩) (fun a j z => by omega) (fun _ _ z => z.elim), ?_, ?_⟩
      · unfold trF; rw [if_pos c, if_pos en]
      · rw [q_I_ne (by omega)]; exact f39b f2 (f39 f1 hz)
      · rw [q_I_eq]; exact g2
    · have et : trF tp w hi0 i = (nmF (tk tp (i + 1)) 0 hi0, i + 1) := by unfold trF; rw [if_pos c, if_neg en]
      rw [et]
      exact ⟨en, rfl, (FA f1).tr (F9 f2), z2⟩
  · have et : trF tp w hi0 i = (1, i) := by unfold trF; rw [if_neg c]
    rw [et]
    exact ⟨(by decide : (1 : Nat) ≠ 0), rfl, F9 f1, z1⟩
theorem cl44 {t n c : Nat} (hn : n < 6) (hc : c < 4) : cloc t (44 + 4 * n + c) = (t + 3 + c, n) := by
  rcases cloc_cases t (show 44 + 4 * n + c < 176 by omega) (by omega) with ⟨a, e⟩ | ⟨a, b, e⟩ | ⟨a, b, e⟩ | ⟨a, b, e⟩ | ⟨a, b, e⟩ | ⟨a, e⟩ <;> first | omega | (rw [e, show (44 + 4 * n + c - 44) % 4 = c by omega, show (44 + 4 * n + c - 44) / 4 = n by omega])
theorem CTr.fam {n k a e c : Nat} {l : List Nat} (ht : q_isTw t) (h : CTr σ t s S) (hW : WS s) (hn6 : n < 6) (hn : s.1 1 = n) (hf : Fk (SF t n) (LF t n) σ σ') (v3 : q_I σ' (t + 3) n = nI k) (v4 : q_I σ' (t + 4) n = nI a) (v5 : q_I σ' (t + 5) n = nI e) (v6 : q_I σ' (t + 6) n = nI c) (v14 : q_I σ' t 14 = nI (n + 1)) (vL : q_L σ' (t + 2) n = lN (e32 l)) : CTr σ' t (fmD s.1 n k a e c, s.2.1, s.2.2.1, s.2.2.2 ++ [(l, 20 + n)]) S := by
  have h0 := isTw_cases ht
  obtain ⟨c1, c2, c3, c4, c5⟩ := h
  have kI : ∀ x y, 27 ≤ x → ¬ (t + 3 ≤ x ∧ x ≤ t + 6 ∧ y = n) → ¬ (x = t ∧ y = 14) → q_I σ' x y = q_I σ x y := fun x y z1 z2 z3 => hf.2.2.1 _ _ (fun z => by unfold SF at z; omega)
  have kL : ∀ x y, 27 ≤ x → ¬ (x = t + 2 ∧ y = n) → q_L σ' x y = q_L σ x y := fun x y z1 z2 => hf.2.2.2 _ _ (fun z => by unfold LF at z; omega)
  have d1 : fmD s.1 n k a e c 1 = n + 1 := by unfold fmD; rw [updN_at]
  have dn : ∀ j, j ≠ 1 → ¬ (44 + 4 * n ≤ j ∧ j < 48 + 4 * n) → fmD s.1 n k a e c j = s.1 j := fun j z1 z2 => by
    unfold fmD
    rw [updN_ne z1, updN_ne (by omega), updN_ne (by omega), updN_ne (by omega), updN_ne (by omega)]
  refine ⟨fun j j1 j2 j3 => ?_, ⟨fun q hq => ?_, fun q hq => ?_⟩, fun y hy => ?_, ⟨by rw [kI _ _ (by omega) (by omega) (by omega)]; exact c4.1, fun q hq => by rw [kI _ _ (by omega) (by omega) (by omega)]; exact c4.2 q hq⟩, fun w hw => ?_⟩
  · have j3 : 44 + 4 * fmD s.1 n k a e c 1 ≤ j → 68 ≤ j := j3
    rw [d1] at j3
    show _ = nI (fmD s.1 n k a e c j)
    by_cases e1 : j = 1
    · subst e1
      rw [d1]
      exact v14
    · by_cases e2 : 44 + 4 * n ≤ j ∧ j < 48 + 4 * n
      · obtain ⟨q, hq, rfl⟩ : ∃ q, q < 4 ∧ j = 44 + 4 * n + q := ⟨j - 44 - 4 * n, by omega, by omega⟩
        rw [cl44 hn6 hq]
        have hq : q = 0 ∨ q = 1 ∨ q = 2 ∨ q = 3 := by omega
        rcases hq with z | z | z | z <;> subst z
        · rw [show fmD s.1 n k a e c (44 + 4 * n + 0) = k by unfold fmD; rw [updN_ne (by omega), updN_ne (by omega), updN_ne (by omega), updN_ne (by omega), Nat.add_zero, updN_at]]
          exact v3
        · rw [show fmD s.1 n k a e c (44 + 4 * n + 1) = a by unfold fmD; rw [updN_ne (by omega), updN_ne (by omega), updN_ne (by omega), show 44 + 4 * n + 1 = 45 + 4 * n by omega, updN_at]]
          exact v4
        · rw [show fmD s.1 n k a e c (44 + 4 * n + 2) = e by unfold fmD; rw [updN_ne (by omega), updN_ne (by omega), show 44 + 4 * n + 2 = 46 + 4 * n by omega, updN_at]]
          exact v5
        · rw [show fmD s.1 n k a e c (44 + 4 * n + 3) = c by unfold fmD; rw [updN_ne (by omega), show 44 + 4 * n + 3 = 47 + 4 * n by omega, updN_at]]
          exact v6
      · rw [dn j e1 e2]
        have hin : 27 ≤ (cloc t j).1 ∧ ¬ (t + 3 ≤ (cloc t j).1 ∧ (cloc t j).1 ≤ t + 6 ∧ (cloc t j).2 = n) ∧ ¬ ((cloc t j).1 = t ∧ (cloc t j).2 = 14) := by
          rcases cloc_cases t j1 j2 with ⟨u, w⟩ | ⟨u, v, w⟩ | ⟨u, v, w⟩ | ⟨u, v, w⟩ | ⟨u, v, w⟩ | ⟨u, w⟩ <;> rw [w] <;> refine ⟨?_, ?_, ?_⟩ <;> simp only <;> omega
        rw [kI _ _ hin.1 hin.2.1 hin.2.2]
        exact c1 j j1 j2 (by rw [hn]; intro z; omega)
  · have hq : q < fmD s.1 n k a e c 3 := hq
    rw [dn 3 (by decide) (by omega)] at hq
    show _ = pbit (fmD s.1 n k a e c (176 + 2 * q)) (fmD s.1 n k a e c (177 + 2 * q))
    rw [dn _ (by omega) (by omega), dn _ (by omega) (by omega), kL _ _ (by omega) (by omega)]
    exact c2.1 q hq
  · have hq : q < fmD s.1 n k a e c 4 := hq
    rw [dn 4 (by decide) (by omega)] at hq
    show _ = pbit (fmD s.1 n k a e c (184 + 2 * q)) (fmD s.1 n k a e c (185 + 2 * q))
    rw [dn _ (by omega) (by omega), dn _ (by omega) (by omega), kL _ _ (by omega) (by omega)]
    exact c2.2 q hq
  · have hy : y ∈ s.2.2.2 ++ [(l, 20 + n)] := hy
    rcases List.mem_append.mp hy with hy | hy
    · have h2 := c3 y hy
      have h3 := (hW.2.2.1.2.1 y hy).1
      have h6 := hW.1.2.1
      refine ⟨fun z => ?_, fun z => ?_⟩
      · rw [kL _ _ (by omega) (by omega)]; exact h2.1 z
      · rw [kL _ _ (by omega) (by omega)]; exact h2.2 z
    · rw [List.mem_singleton] at hy
      subst hy
      refine ⟨fun z => by have z : 20 + n < 20 := z; omega, fun _ => ?_⟩
      show q_L σ' (t + 2) (20 + n - 20) = lN (e32 l)
      rw [show 20 + n - 20 = n by omega]
      exact vL
  · rw [kI _ _ (by omega) (by omega) (by omega), kI _ _ (by omega) (by omega) (by omega), kI _ _ (by omega) (by omega) (by omega)]
    exact c5 w hw
theorem Rd_family_ok (hM : IsM tp M) (hw : WTp tp) (hd : 9 ≤ d) (ht : q_isTw t) (hP : RdP tp t M σ s S i) (hW : WS s) (hq : ∀ v σ', RdV tp t σ (lnF tp s i) v σ' → Q (some (.int v)) σ') : q_Call G d 0 0 X_Rd_readFamily [.ref 4, .ref t] σ Q := by
  obtain ⟨d, rfl⟩ : ∃ d', d = d' + 1 := ⟨d - 1, by omega⟩
  obtain ⟨hs, hK, hT, h15, hz, hi⟩ := hP
  have h0 := isTw_cases ht
  have h6 := hW.1.2.1
  have h61 := hW.1.F6
  refine q_cii (Pp := RdV tp t σ (lnF tp s i)) (by decide +kernel) (Nat.le_of_ble_eq_true rfl) (fun Q hv => ?_) hq
  have e13 : q_I σ t 13 = nI (s.1 0) := hT.1.v (i := 0) (by decide) (by decide) (by omega) rfl
  have e14 : q_I σ t 14 = nI (s.1 1) := hT.1.v (i := 1) (by decide) (by decide) (by omega) rfl
  have ln : ¬ s.1 0 ≤ s.1 1 → ∀ k j, fmF tp s.2.2.2 i = (k, j) → k ≠ 0 → lnF tp s i = (k, j, s) := fun z k j e hk => by
    unfold lnF
    rw [if_neg z, if_neg (by rw [e]; exact hk), e]
  have FT : ∀ {n p2 : Nat} {σ1 σ2 : q_S}, t + 3 ≤ p2 → p2 ≤ t + 6 → Fk (ST_ p2 n) SKl σ1 σ2 → Fk (SF t n) (LF t n) σ1 σ2 := fun h1 h2 h => h.mono (fun a j z => by unfold ST_ at z; unfold SF; omega) (fun a j z => Or.inl z)
  have FA : ∀ {n : Nat} {σ1 σ2 : q_S}, Fk SKa SKl σ1 σ2 → Fk (SF t n) (LF t n) σ1 σ2 := fun h => h.mono (fun a j z => Or.inl z.1) (fun a j z => Or.inl z)
  have FS : ∀ {n : Nat} {σ1 σ2 : q_S}, Fk (SF t n) (LF t n) σ1 σ2 → Fk (SRt t) (LRt t) σ1 σ2 := fun h => h.mono (fun a j z => by unfold SF at z; unfold SRt; omega) (fun a j z => by unfold LF at z; unfold LRt; omega)
  refine v_Rd_readFamily_0 ht hs ⟨fun c => ?_, fun c => ⟨fun c2 => ?_, fun c2 => absurd (by rw [e14]; exact nI_lt (b := 6) (by rw [e13, e14, nI_leI (by omega) (by omega)] at c; omega) (by decide)) c2⟩⟩
  · rw [e13, e14, nI_leI (by omega) (by omega)] at c
    exact Tk_refuse_ok (k := 5) hs hK (fun σ1 f1 z1 => ⟨f1.sh hs, _, rfl, rfl, hv _ _ (RdV.bad (by unfold lnF; rw [if_pos c]) (by decide) (F9t f1) z1)⟩)
  · rw [e13, e14, nI_leI (by omega) (by omega)] at c
    rw [e14]
    have hn6 : s.1 1 < 6 := by omega
    refine Tk_next (by omega) hs hw hK (fun σ1 f1 k1 => ⟨f1.sh hs, rfl, ?_⟩)
    have hs1 := f1.sh hs
    have T1 := hT.k ht f1 (fun a j z => lt27A z) (fun a j z => lt27l z)
    refine Rd_new_ok (by omega) ht hs1 k1 (T1.nm hW) (fun e => ⟨hs1, _, rfl, fun _ => ?_, fun z => absurd z (by decide)⟩) (fun e σ2 f2 z2 => ⟨f2.sh hs1, _, rfl, fun z => absurd rfl z, fun _ => hv _ _ (RdV.bad (ln c _ _ (by unfold fmF; rw [if_neg e]) e) e ((FAt f1).tr (F9t f2)) z2)⟩)
    have hn : isNm (tk tp (i + 1)) = true := by
      refine Classical.byContradiction (fun z => ?_)
      unfold nwF at e
      rw [if_neg z] at e
      exact absurd e (by decide)
    have eL : q_L σ1 3 5 = lN (e32 (tk tp (i + 1)).2.2.2) := (k1.2.2.2.2.1 (isNm_t.mp hn).1).1
    rw [eL]
    refine ⟨s.1 1, rfl, hn6, ?_⟩
    have FL : Fk (SF t (s.1 1)) (LF t (s.1 1)) σ (q_setL σ1 (t + 2) (s.1 1) (lN (e32 (tk tp (i + 1)).2.2.2))) := (FA f1).tr (Fr.setL (Or.inr ⟨rfl, rfl⟩)).k
    have hsL := FL.sh hs
    refine Tk_next (by omega) hsL hw (k1.lt ht (t := t) ⟨by omega, by omega⟩) (fun σ3 f3 k3 => ⟨f3.sh hsL, rfl, ?_⟩)
    have F3 := FL.tr (FA f3)
    have hs3 := F3.sh hs
    have z3 : q_I σ3 3 9 = 0 := f39 f3 (f39 f1 hz : q_I σ1 3 9 = 0)
    have L3 : q_L σ3 (t + 2) (s.1 1) = lN (e32 (tk tp (i + 1)).2.2.2) := by rw [f3.2.2.2 _ _ (fun z => by have := lt27l z; omega), q_L_eq]
    have fm0 : ∀ r, (if kdT (tk tp (i + 2)) = -1 then (1, i + 2) else if (trF tp 3 9 (i + 3)).1 = 0 then (if (trF tp 4 9 (i + 5)).1 = 0 then trF tp 5 999 (i + 7) else trF tp 4 9 (i + 5)) else trF tp 3 9 (i + 3)) = r → fmF tp s.2.2.2 i = r := fun r h => by
      unfold fmF
      rw [if_pos e]
      exact h
    refine Tk_kind_ok (by omega) hs3 k3 ⟨hs3, _, rfl, fun ck => ?_, fun ck => ?_⟩
    · have hk : (tk tp (i + 2)).1 = 1 ∧ 18 ≤ (tk tp (i + 2)).2.2.1 ∧ (tk tp (i + 2)).2.2.1 ≤ 21 := by
        refine Classical.byContradiction (fun z => ck ?_)
        unfold kdT
        exact if_neg z
      have ek : kdT (tk tp (i + 1 + 1)) = nI ((tk tp (i + 2)).2.2.1 - 18) := if_pos hk
      have ck : ¬ kdT (tk tp (i + 2)) = -1 := ck
      refine ⟨s.1 1, rfl, hn6, ?_⟩
      rw [ek]
      have F4 := F3.tr (Fr.setI (SI := SF t (s.1 1)) (SL := LF t (s.1 1)) (σ := σ3) (a := t + 3) (i := s.1 1) (v := nI ((tk tp (i + 2)).2.2.1 - 18)) (Or.inr (Or.inl ⟨by omega, by omega, rfl⟩))).k
      have hs4 := F4.sh hs
      refine Tk_next (by omega) hs4 hw (k3.it ht (t := t) ⟨by omega, by omega⟩) (fun σ5 f5 k5 => ⟨f5.sh hs4, rfl, ?_⟩)
      have F5 := F4.tr (FA f5)
      have hs5 := F5.sh hs
      have z5 : q_I σ5 3 9 = 0 := f39 f5 (f39t ht ⟨by omega, by omega⟩ z3)
      have A5 : q_I σ5 (t + 3) (s.1 1) = nI ((tk tp (i + 2)).2.2.1 - 18) := by rw [f5.2.2.1 _ _ (fun z => by have := lt27A z; omega), q_I_eq]
      have L5 : q_L σ5 (t + 2) (s.1 1) = lN (e32 (tk tp (i + 1)).2.2.2) := by rw [f5.2.2.2 _ _ (fun z => by have := lt27l z; omega), q_L_setI]; exact L3
      have k5 : CK σ5 tp (i + 3) := k5
      refine Rd_trait_ok (w := 3) (hi0 := 9) (p2 := t + 4) (n := s.1 1) (by decide) (by decide) (kd_Tw_4 ht) (by omega) hn6 (by omega) hs5 hw k5 z5 (fun r0 σ6 f6 k6 z6 v6 => ⟨f6.sh hs5, _, rfl, fun z => absurd z (by decide), fun _ => ?_⟩) (fun r0 σ6 f6 z6 => ⟨f6.sh hs5, _, rfl, fun _ => hv _ _ (RdV.bad (ln c _ _ (fm0 _ (by rw [if_neg ck, if_neg r0])) r0) r0 (FS (F5.tr (FT (by omega) (by omega) f6))) z6), fun z => absurd rfl z⟩)
      have F6 := F5.tr (FT (by omega) (by omega) f6)
      have hs6 := F6.sh hs
      have k6 : CK σ6 tp (i + 5) := k6
      have n3 : ∀ {x : Nat}, x ≠ t + 4 → 27 ≤ x → q_I σ6 x (s.1 1) = q_I σ5 x (s.1 1) := fun h1 h2 => f6.2.2.1 _ _ (fun z => by unfold ST_ at z; omega)
      refine Rd_trait_ok (w := 4) (hi0 := 9) (p2 := t + 5) (n := s.1 1) (by decide) (by decide) (kd_Tw_5 ht) (by omega) hn6 (by omega) hs6 hw k6 z6 (fun r1 σ7 f7 k7 z7 v7 => ⟨f7.sh hs6, _, rfl, fun z => absurd z (by decide), fun _ => ?_⟩) (fun r1 σ7 f7 z7 => ⟨f7.sh hs6, _, rfl, fun _ => hv _ _ (RdV.bad (ln c _ _ (fm0 _ (by rw [if_neg ck, if_pos r0, if_neg r1])) r1) r1 (FS (F6.tr (FT (by omega) (by omega) f7))) z7), fun z => absurd rfl z⟩)
      have F7 := F6.tr (FT (by omega) (by omega) f7)
      have hs7 := F7.sh hs
      have k7 : CK σ7 tp (i + 7) := k7
      refine Rd_trait_ok (w := 5) (hi0 := 999) (p2 := t + 6) (n := s.1 1) (by decide) (by decide) (kd_Tw_6 ht) (by omega) hn6 (by omega) hs7 hw k7 z7 (fun r2 σ8 f8 k8 z8 v8 => ⟨f8.sh hs7, _, rfl, fun _ => ?_, fun z => absurd z (by decide)⟩) (fun r2 σ8 f8 z8 => ⟨f8.sh hs7, _, rfl, fun z => absurd rfl z, fun _ => hv _ _ (RdV.bad (ln c _ _ (fm0 _ (by rw [if_neg ck, if_pos r0, if_pos r1])) r2) r2 (FS (F7.tr (FT (by omega) (by omega) f8))) z8)⟩)
      have F8 := F7.tr (FT (by omega) (by omega) f8)
      have k8 : CK σ8 tp (i + 9) := k8
      have v14 : q_I σ8 t 14 = nI (s.1 1) := by
        rw [f8.2.2.1 _ _ (fun z => by unfold ST_ at z; omega), f7.2.2.1 _ _ (fun z => by unfold ST_ at z; omega), f6.2.2.1 _ _ (fun z => by unfold ST_ at z; omega), f5.2.2.1 _ _ (fun z => by have := lt27A z; omega), q_I_ne (by omega), f3.2.2.1 _ _ (fun z => by have := lt27A z; omega), q_I_setL, f1.2.2.1 _ _ (fun z => by have := lt27A z; omega)]
        exact e14
      rw [v14, nI_1]
      have F9 := F8.tr (Fr.setI (SI := SF t (s.1 1)) (SL := LF t (s.1 1)) (σ := σ8) (a := t) (i := 14) (v := nI (s.1 1 + 1)) (Or.inr (Or.inr ⟨rfl, rfl⟩))).k
      have eR : lnF tp s i = (0, i + 9, (fmD s.1 (s.1 1) ((tk tp (i + 2)).2.2.1 - 18) (tk tp (i + 4)).2.2.1 (tk tp (i + 6)).2.2.1 (tk tp (i + 8)).2.2.1, s.2.1, s.2.2.1, s.2.2.2 ++ [((tk tp (i + 1)).2.2.2, 20 + s.1 1)])) := by
        unfold lnF
        rw [if_neg c, if_pos]
        rw [fm0 _ (by rw [if_neg ck, if_pos r0, if_pos r1])]
        exact r2
      refine hv _ _ ?_
      rw [eR]
      refine Or.inl ⟨rfl, rfl, FS F9, k8.it ht (t := t) ⟨by omega, by omega⟩, f39t ht ⟨by omega, by omega⟩ z8, S, hT.fam ht hW hn6 rfl F9 ?_ ?_ ?_ ?_ q_I_eq ?_, by show S.length ≤ 15 + (i + 9); omega⟩
      · rw [q_I_ne (by omega), f8.2.2.1 _ _ (fun z => by unfold ST_ at z; omega), f7.2.2.1 _ _ (fun z => by unfold ST_ at z; omega), n3 (by omega) (by omega)]; exact A5
      · rw [q_I_ne (by omega), f8.2.2.1 _ _ (fun z => by unfold ST_ at z; omega), f7.2.2.1 _ _ (fun z => by unfold ST_ at z; omega)]; exact v6
      · rw [q_I_ne (by omega), f8.2.2.1 _ _ (fun z => by unfold ST_ at z; omega)]; exact v7
      · rw [q_I_ne (by omega)]; exact v8
      · rw [q_L_setI, f8.2.2.2 _ _ (fun z => by have := lt27l z; omega), f7.2.2.2 _ _ (fun z => by have := lt27l z; omega), f6.2.2.2 _ _ (fun z => by have := lt27l z; omega)]; exact L5
    · have ck : kdT (tk tp (i + 2)) = -1 := ck
      exact Tk_refuse_ok (k := 1) hs3 k3 (fun σ4 f4 z4 => ⟨f4.sh hs3, _, rfl, rfl, hv _ _ (RdV.bad (ln c _ _ (fm0 _ (by rw [if_pos ck])) (by decide)) (by decide) ((FS F3).tr (F9t f4)) z4)⟩)
end CLINES3
