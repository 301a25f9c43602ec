-- names of the reference: r = 0 those that stand, r = 1 those that are read
def MNs (σ : q_S) (r : Nat) (N : q_nm) : Prop := q_I σ 159 (18 + r) = nI N.length ∧ ∀ k x, N[k]? = some x → q_L σ (168 + r) k = lN (e37 x.1) ∧ q_I σ (170 + r) k = nI x.2
def okN (N : q_nm) : Prop := N.length ≤ 12 ∧ ∀ x ∈ N, okL x.1 ∧ (x.2 < 6 ∨ (20 ≤ x.2 ∧ x.2 < 26))
theorem WN.okN {D : Nat → Nat} {N : q_nm} (hD : WfD D) (h : WN D N) : okN N := by
  have h6 := hD.F6
  have h0 := hD.2.1
  refine ⟨h.1, fun x hx => ?_⟩
  obtain ⟨a1, a2, a3, a4⟩ := h.2.1 x hx
  exact ⟨⟨a2, a4⟩, by omega⟩
def lkI (o : Option Nat) : Int32 := match o with
  | some v => nI v
  | none => -1
theorem lkN_first {l : List Nat} : ∀ (N : q_nm) (k : Nat) (x : List Nat × Nat), N[k]? = some x → x.1 = l → (∀ j y, j < k → N[j]? = some y → y.1 ≠ l) → lkN N l = some x.2
  | [], k, x, h, _, _ => absurd h (by simp)
  | y :: N, 0, x, h, e, _ => by
    have h : y = x := Option.some.inj h
    subst h
    unfold lkN
    rw [List.find?_cons_of_pos (p := fun (x : List Nat × Nat) => decide (x.1 = l)) (a := y) (decide_eq_true e)]
    rfl
  | y :: N, k + 1, x, h, e, hn => by
    have h0 := hn 0 y (Nat.succ_pos k) rfl
    have ih := lkN_first N k x h e (fun j z hj hz => hn (j + 1) z (by omega) hz)
    unfold lkN at ih ⊢
    rw [List.find?_cons_of_neg (by rw [decide_eq_true_eq]; exact h0)]
    exact ih
theorem lkN_no {N : q_nm} {l : List Nat} (h : ∀ x ∈ N, x.1 ≠ l) : lkN N l = none := by
  unfold lkN
  rw [List.find?_eq_none.mpr (fun x hx => by rw [decide_eq_true_eq]; exact h x hx)]
  rfl
section MNAME
variable {G : q_G} {d : Nat} {σ σ' : q_S} {Q : Option Value → q_S → Prop} {tp : List Nat} {M i r b : Nat} {N : q_nm}
theorem MNs.fr {SI SL : Nat → Nat → Prop} (h : MNs σ r N) (hr : r = 0 ∨ r = 1) (hf : Fr SI SL σ σ') (hI : ∀ a j, SI a j → ¬ ((a = 159 ∧ (j = 18 ∨ j = 19)) ∨ a = 170 ∨ a = 171)) (hL : ∀ a j, SL a j → ¬ (a = 168 ∨ a = 169)) : MNs σ' r N := by
  refine ⟨by rw [hf.2.2.1 _ _ (fun z => hI _ _ z (by omega))]; exact h.1, fun k x hx => ?_⟩
  rw [hf.2.2.2 _ _ (fun z => hL _ _ z (by omega)), hf.2.2.1 _ _ (fun z => hI _ _ z (by omega))]
  exact h.2 k x hx
theorem M_find_ok (hr : r = 0 ∨ r = 1) (hs : q_Sh σ) (hK : MK σ tp M i) (h1 : (tk tp i).1 = 1) (hN : MNs σ r N) (hk : okN N) (hq : Q (some (.int (lkI (lkN N (tk tp i).2.2.2)))) σ) : q_Call G d 0 0 X_M_find [.ref 159, .int (nI r)] σ Q := by
  refine q_ci (by decide +kernel) (Nat.le_of_ble_eq_true rfl) (fun Q hq => ?_) hq
  have hb := hK.2.2.2
  have hl := hk.1
  obtain ⟨w1, w2, w3⟩ := tkA_w (p := ps tp i) h1
  have w1 : okL (tk tp i).2.2.2 := w1
  have eL := hK.me.2.2.1 h1
  have cmp : ∀ k x, N[k]? = some x → ((lg_cmp (q_L σ (168 + r) k) (q_L σ 163 i) = 0) ↔ x.1 = (tk tp i).2.2.2) := fun k x hx => by
    rw [cmp_eq, (hN.2 k x hx).1, eL]
    exact e37_eq (hk.2 x (List.mem_of_getElem? hx)).1 w1
  refine v_M_find_0 hs ?_
  refine up_ind (R := fun k => (∀ j y, j < k → N[j]? = some y → y.1 ≠ (tk tp i).2.2.2) → q_At G X_M_find d 0 0 2 [some (.ref 159), some (.int (nI r)), some (.int (nI k))] [] σ Q) (n := N.length) (fun hn => ?_) (fun k hkl ih hn => ?_) 0 (Nat.zero_le _) (fun j y hj => absurd hj (Nat.not_lt_zero j))
  · have en : lkN N (tk tp i).2.2.2 = none := lkN_no (fun x hx => by
      obtain ⟨j, hj⟩ := List.mem_iff_getElem?.mp hx
      exact hn j x (List.getElem?_eq_some_iff.mp hj).1 hj)
    rw [en] at hq
    refine v_M_find_2 hs ⟨fun _ => hq, fun c => absurd ?_ c⟩
    rcases hr with rfl | rfl
    · rw [if_pos nI_0]
      rw [show q_I σ 159 18 = nI N.length from hN.1]
      exact Int32.le_refl _
    · rw [if_neg (by decide)]
      rw [show q_I σ 159 19 = nI N.length from hN.1]
      exact Int32.le_refl _
  · have hx : N[k]? = some N[k] := List.getElem?_eq_getElem hkl
    have cx := cmp k _ hx
    have yes : lg_cmp (q_L σ (168 + r) k) (q_L σ 163 i) = 0 → Q (some (.int (q_I σ (170 + r) k))) σ := fun z => by
      rw [lkN_first N k _ hx (cx.mp z) hn] at hq
      rw [(hN.2 k _ hx).2]
      exact hq
    have no : ¬ lg_cmp (q_L σ (168 + r) k) (q_L σ 163 i) = 0 → q_At G X_M_find d 0 0 2 [some (.ref 159), some (.int (nI r)), some (.int (nI k + 1))] [] σ Q := fun z => by
      rw [nI_1]
      refine ih (fun j y hj hy => ?_)
      by_cases e : j = k
      · subst e
        rw [hx] at hy
        rw [← Option.some.inj hy]
        exact fun w => z (cx.mpr w)
      · exact hn j y (by omega) hy
    refine v_M_find_2 hs ⟨fun c => ?_, fun _ => ?_⟩
    · rcases hr with rfl | rfl
      · rw [if_pos nI_0, show q_I σ 159 18 = nI N.length from hN.1] at c
        exact ge_not c hkl (by omega)
      · rw [if_neg (by decide), show q_I σ 159 19 = nI N.length from hN.1] at c
        exact ge_not c hkl (by omega)
    · rcases hr with rfl | rfl
      · exact ⟨fun _ => ⟨k, rfl, by omega, i, hK.2.1, by omega, no, fun z => ⟨fun _ => ⟨k, rfl, by omega, yes z⟩, fun y => absurd rfl y⟩⟩, fun y => absurd rfl y⟩
      · exact ⟨fun y => absurd y (by decide), fun _ => ⟨k, rfl, by omega, i, hK.2.1, by omega, no, fun z => ⟨fun y => absurd y (by decide), fun _ => ⟨k, rfl, by omega, yes z⟩⟩⟩⟩
theorem M_here_no {a c v : Int32} (hd : 1 ≤ d) (hs : q_Sh σ) (hF : FX σ v) (hq : Q (some (.int 0)) σ) : q_Call G d 0 0 X_M_toldHere [.ref 159, .int a, .int c] σ Q := by
  obtain ⟨d, rfl⟩ : ∃ d', d = d' + 1 := ⟨d - 1, by omega⟩
  refine q_ci (by decide +kernel) (Nat.le_of_ble_eq_true rfl) (fun Q hq => ?_) hq
  refine v_M_toldHere_0 hs ⟨fun _ => ⟨fun z => absurd z hF.nle, fun _ => ⟨fun _ => ?_, fun z => absurd z hF.n0⟩⟩, fun z => absurd z hF.n0⟩
  rw [if_neg hF.nle]
  exact hq
-- a number of a name, less b: within 0 .. 5 or not
theorem here_num : ∀ u, u < 26 → (u < 6 ∨ 20 ≤ u) → (inN 0 (nI u - nI 0) 5 = 0 ↔ ¬ u < 6) ∧ (inN 0 (nI u - nI 20) 5 = 0 ↔ ¬ 20 ≤ u) := by decide +kernel
theorem M_here_ok (hr : r = 0 ∨ r = 1) (hb : b = 0 ∨ b = 20) (hd : 3 ≤ d) (hw : WTp tp) (hs : q_Sh σ) (hK : MK σ tp M i) (hN : MNs σ r N) (hk : okN N) (hq1 : tdF N b (tk tp i) = 0 → Q (some (.int (nI (tdX N b (tk tp i))))) σ) (hq0 : tdF N b (tk tp i) ≠ 0 → ∀ σ', Fr S78 noL σ σ' → FX σ' (nI (flt tp (tdF N b (tk tp i)) i)) → Q (some (.int 0)) σ') : q_Call G d 0 0 X_M_toldHere [.ref 159, .int (nI r), .int (nI b)] σ Q := by
  obtain ⟨d, rfl⟩ : ∃ d', d = d' + 1 := ⟨d - 1, by omega⟩
  refine q_cii (Pp := fun v σ' => (tdF N b (tk tp i) = 0 ∧ v = nI (tdX N b (tk tp i)) ∧ σ' = σ) ∨ (tdF N b (tk tp i) ≠ 0 ∧ v = 0 ∧ Fr S78 noL σ σ' ∧ FX σ' (nI (flt tp (tdF N b (tk tp i)) i)))) (by decide +kernel) (Nat.le_of_ble_eq_true rfl) (fun Q hq => ?_) (fun v σ' h => by
    rcases h with z | z
    · rw [z.2.1, z.2.2]; exact hq1 z.1
    · rw [z.2.1]; exact hq0 z.1 σ' z.2.2.1 z.2.2.2)
  have h0 := hK.2.2.1
  have l0 : q_I σ 159 8 ≤ 0 := by rw [h0]; exact Int32.le_refl _
  refine v_M_toldHere_0 hs ⟨fun z => absurd h0 z, fun _ => M_isName_ok (by omega) hs hK ⟨hs, _, rfl, fun c => ⟨fun _ => ?_, fun z => absurd l0 z⟩, fun c => ?_⟩⟩
  · rw [i10, Decidable.not_not] at c
    have c1 := (isNm_t.mp c).1
    refine M_find_ok hr hs hK c1 hN hk ⟨hs, _, rfl, fun z => absurd h0 z, fun _ => M_within_ok hs ⟨hs, _, rfl, fun z => ?_, fun z => ?_⟩⟩
    · -- told
      have e : tdF N b (tk tp i) = 0 ∧ lkI (lkN N (tk tp i).2.2.2) - nI b = nI (tdX N b (tk tp i)) := by
        unfold tdF tdX
        rw [if_pos c]
        cases o : lkN N (tk tp i).2.2.2 with
        | none =>
          exfalso
          rw [o] at z
          rcases hb with rfl | rfl
          · exact z (by decide)
          · exact z (by decide)
        | some u =>
          rw [o] at z
          have hu : u < 6 ∨ (20 ≤ u ∧ u < 26) := by
            unfold lkN at o
            cases e : N.find? (fun x => decide (x.1 = (tk tp i).2.2.2)) with
            | none => rw [e] at o; exact absurd o (by simp)
            | some x =>
              rw [e] at o
              have o : x.2 = u := Option.some.inj o
              rw [← o]
              exact (hk.2 x (List.mem_of_find?_eq_some e)).2
          have hn := here_num u (by omega) (by omega)
          have z : ¬ inN 0 (nI u - nI b) 5 = 0 := z
          have hin : b ≤ u ∧ u < b + 20 := by
            rcases hb with rfl | rfl
            · rw [hn.1, Decidable.not_not] at z; omega
            · rw [hn.2, Decidable.not_not] at z; omega
          have et : tdL N b (tk tp i).2.2.2 = some (u - b) := by
            unfold tdL
            rw [o]
            exact if_pos hin
          rw [et]
          exact ⟨if_pos rfl, pk_sub hin.1⟩
      rw [if_pos l0, e.2]
      exact hq _ _ (Or.inl ⟨e.1, rfl, rfl⟩)
    · have e : tdF N b (tk tp i) = 2 := by
        unfold tdF
        rw [if_pos c]
        cases o : lkN N (tk tp i).2.2.2 with
        | none =>
          have et : tdL N b (tk tp i).2.2.2 = none := by unfold tdL; rw [o]
          rw [et]
          exact if_neg (by decide)
        | some u =>
          rw [o] at z
          have hu : u < 6 ∨ (20 ≤ u ∧ u < 26) := by
            unfold lkN at o
            cases e : N.find? (fun x => decide (x.1 = (tk tp i).2.2.2)) with
            | none => rw [e] at o; exact absurd o (by simp)
            | some x =>
              rw [e] at o
              have o : x.2 = u := Option.some.inj o
              rw [← o]
              exact (hk.2 x (List.mem_of_find?_eq_some e)).2
          have hn := here_num u (by omega) (by omega)
          have z : inN 0 (nI u - nI b) 5 = 0 := z
          have hin : ¬ (b ≤ u ∧ u < b + 20) := by
            rcases hb with rfl | rfl
            · rw [hn.1] at z; omega
            · rw [hn.2] at z; omega
          have et : tdL N b (tk tp i).2.2.2 = none := by
            unfold tdL
            rw [o]
            exact if_neg hin
          rw [et]
          exact if_neg (by decide)
      refine M_wrong_ok (k := 2) hs hK hw.1 (by decide) (by decide) (fun σ1 f1 x1 => ⟨f1.sh hs, rfl, ?_⟩)
      dsimp only
      rw [if_neg x1.nle]
      exact hq _ _ (Or.inr ⟨by rw [e]; decide, rfl, f1, by rw [e]; exact x1⟩)
  · rw [i10] at c
    have e : tdF N b (tk tp i) = 1 := by unfold tdF; rw [if_neg c]
    refine M_wrong_ok (k := 1) hs hK hw.1 (by decide) (by decide) (fun σ1 f1 x1 => ⟨f1.sh hs, rfl, fun z => absurd z x1.nle, fun _ => ⟨fun _ => ?_, fun z => absurd z x1.n0⟩⟩)
    rw [if_neg x1.nle]
    exact hq _ _ (Or.inr ⟨by rw [e]; decide, rfl, f1, by rw [e]; exact x1⟩)
theorem M_takeTold_no {a c v : Int32} (hd : 2 ≤ d) (hs : q_Sh σ) (hF : FX σ v) (hq : Q (some (.int 0)) σ) : q_Call G d 0 0 X_M_takeTold [.ref 159, .int a, .int c] σ Q := by
  obtain ⟨d, rfl⟩ : ∃ d', d = d' + 1 := ⟨d - 1, by omega⟩
  refine q_ci (by decide +kernel) (Nat.le_of_ble_eq_true rfl) (fun Q hq => ?_) hq
  refine v_M_takeTold_0 hs (M_here_no (by omega) hs hF ⟨hs, _, rfl, ?_⟩)
  dsimp only
  rw [if_neg hF.nle, show q_I σ 159 7 + 0 = q_I σ 159 7 from Int32.add_zero _, q_setI_self]
  exact hq
theorem M_takeTold_ok (hr : r = 0 ∨ r = 1) (hb : b = 0 ∨ b = 20) (hd : 4 ≤ d) (hw : WTp tp) (hM : IsM tp M) (hs : q_Sh σ) (hK : MK σ tp M i) (hN : MNs σ r N) (hk : okN N) (hq1 : tdF N b (tk tp i) = 0 → ∀ σ', Fr S78 noL σ σ' → MK σ' tp M (i + 1) → Q (some (.int (nI (tdX N b (tk tp i))))) σ') (hq0 : tdF N b (tk tp i) ≠ 0 → ∀ σ', Fr S78 noL σ σ' → FX σ' (nI (flt tp (tdF N b (tk tp i)) i)) → Q (some (.int 0)) σ') : q_Call G d 0 0 X_M_takeTold [.ref 159, .int (nI r), .int (nI b)] σ Q := by
  obtain ⟨d, rfl⟩ : ∃ d', d = d' + 1 := ⟨d - 1, by omega⟩
  refine q_cii (Pp := fun v σ' => (tdF N b (tk tp i) = 0 ∧ v = nI (tdX N b (tk tp i)) ∧ Fr S78 noL σ σ' ∧ MK σ' tp M (i + 1)) ∨ (tdF N b (tk tp i) ≠ 0 ∧ v = 0 ∧ Fr S78 noL σ σ' ∧ FX σ' (nI (flt tp (tdF N b (tk tp i)) i)))) (by decide +kernel) (Nat.le_of_ble_eq_true rfl) (fun Q hq => ?_) (fun v σ' h => by
    rcases h with z | z
    · rw [z.2.1]; exact hq1 z.1 σ' z.2.2.1 z.2.2.2
    · rw [z.2.1]; exact hq0 z.1 σ' z.2.2.1 z.2.2.2)
  have l0 : q_I σ 159 8 ≤ 0 := by rw [hK.2.2.1]; exact Int32.le_refl _
  refine v_M_takeTold_0 hs (M_here_ok hr hb (by omega) hw hs hK hN hk (fun z => ⟨hs, _, rfl, ?_⟩) (fun z σ1 f1 x1 => ⟨f1.sh hs, _, rfl, ?_⟩))
  · dsimp only
    rw [if_pos l0, hK.2.1, nI_1]
    exact hq _ _ (Or.inl ⟨z, rfl, Fr.setI ⟨rfl, Or.inl rfl⟩, hK.at (tk_up hM hK.2.2.2.1 (by rw [tdF_0 z]; decide))⟩)
  · dsimp only
    rw [if_neg x1.nle, show q_I σ1 159 7 + 0 = q_I σ1 159 7 from Int32.add_zero _, q_setI_self]
    exact hq _ _ (Or.inr ⟨z, rfl, f1, x1⟩)
theorem tdX_6 (hk : okN N) (hb : b = 0 ∨ b = 20) {T : q_tk} (h : tdF N b T = 0) : tdX N b T < 6 := by
  unfold tdF at h
  by_cases c : isNm T = true
  · rw [if_pos c] at h
    by_cases c2 : (tdL N b T.2.2.2).isSome = true
    · obtain ⟨v, hv⟩ := Option.isSome_iff_exists.mp c2
      unfold tdX
      rw [hv]
      show v < 6
      unfold tdL at hv
      cases o : lkN N T.2.2.2 with
      | none => rw [o] at hv; exact absurd hv (by simp)
      | some u =>
        rw [o] at hv
        have hu : u < 6 ∨ (20 ≤ u ∧ u < 26) := by
          unfold lkN at o
          cases e : N.find? (fun x => decide (x.1 = T.2.2.2)) with
          | none => rw [e] at o; exact absurd o (by simp)
          | some x =>
            rw [e] at o
            have o : x.2 = u := Option.some.inj o
            rw [← o]
            exact (hk.2 x (List.mem_of_find?_eq_some e)).2
        have hv : (if b ≤ u ∧ u < b + 20 then some (u - b) else none) = some v := hv
        by_cases c3 : b ≤ u ∧ u < b + 20
        · rw [if_pos c3] at hv
          have := Option.some.inj hv
          omega
        · rw [if_neg c3] at hv
          exact absurd hv (by simp)
    · rw [if_neg c2] at h
      exact absurd h (by decide)
  · rw [if_neg c] at h
    exact absurd h (by decide)
theorem M_two_ok {K : Int32 → Int32 → q_S → Prop} (hr : r = 0 ∨ r = 1) (hb : b = 0 ∨ b = 20) (hd : 4 ≤ d) (hw : WTp tp) (hM : IsM tp M) (hs : q_Sh σ) (hK : MK σ tp M i) (hN : MNs σ r N) (hk : okN N)
    (h1 : tdF N b (tk tp i) = 0 → tdF N b (tk tp (i + 1)) = 0 → ∀ σ', Fr S78 noL σ σ' → MK σ' tp M (i + 1) → K (nI (tdX N b (tk tp i))) (nI (tdX N b (tk tp (i + 1)))) σ')
    (h0 : (twF tp N b i).1 ≠ 0 → ∀ a σ', a < 6 → Fr S78 noL σ σ' → FX σ' (nI (flt tp (twF tp N b i).1 (twF tp N b i).2)) → K (nI a) 0 σ') :
    q_Call G d 0 0 X_M_takeTold [.ref 159, .int (nI r), .int (nI b)] σ (q_ri (fun x4 σ2 => q_Call G d 0 0 X_M_toldHere [.ref 159, .int (nI r), .int (nI b)] σ2 (q_ri (fun x8 σ6 => K x4 x8 σ6)))) := by
  refine M_takeTold_ok hr hb hd hw hM hs hK hN hk (fun z σ1 f1 k1 => ⟨f1.sh hs, _, rfl, ?_⟩) (fun z σ1 f1 x1 => ⟨f1.sh hs, _, rfl, M_here_no (by omega) (f1.sh hs) x1 ⟨f1.sh hs, _, rfl, ?_⟩⟩)
  · have hs1 := f1.sh hs
    refine M_here_ok hr hb (by omega) hw hs1 k1 (hN.fr hr f1 (fun a j y => by unfold S78 at y; omega) (fun _ _ y => y.elim)) hk (fun y => ⟨hs1, _, rfl, h1 z y σ1 f1 k1⟩) (fun y σ2 f2 x2 => ⟨f2.sh hs1, _, rfl, ?_⟩)
    have e : twF tp N b i = (tdF N b (tk tp (i + 1)), i + 1) := by unfold twF; rw [if_pos z, if_neg y]
    rw [e] at h0
    exact h0 y _ σ2 (tdX_6 hk hb z) (f1.tr f2) x2
  · have e : twF tp N b i = (tdF N b (tk tp i), i) := by unfold twF; rw [if_neg z]
    rw [e] at h0
    exact h0 z 0 σ1 (by decide) f1 x1
end MNAME
