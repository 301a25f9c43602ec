def adI (o : Option Nat) : Int32 := match o with
  | some v => nI v
  | none => -1
def S4 : Nat → Nat → Prop := fun a _ => a = 3 ∨ a = 4
theorem CTr.k {SI SL : Nat → Nat → Prop} {σ σ' : q_S} {t : Nat} {s : q_ts} {S : List Int32} (ht : q_isTw t) (h : CTr σ t s S) (hf : Fk SI SL σ σ') (hI : ∀ a i, SI a i → a < 27) (hL : ∀ a i, SL a i → a < 27) : CTr σ' t s S := by
  have h0 := isTw_cases ht
  have kI : ∀ a i, 27 ≤ a → q_I σ' a i = q_I σ a i := fun a i z => hf.2.2.1 _ _ (fun y => by have := hI _ _ y; omega)
  have kL : ∀ a i, 27 ≤ a → q_L σ' a i = q_L σ a i := fun a i z => hf.2.2.2 _ _ (fun y => by have := hL _ _ y; omega)
  obtain ⟨h1, h2, h3, h4, h5⟩ := h
  refine ⟨fun i a1 a2 a3 => ?_, ⟨fun k hk => ?_, fun k hk => ?_⟩, fun x hx => ?_, ⟨?_, fun j hj => ?_⟩, fun w hw => ?_⟩
  · rw [kI _ _ (by have := cloc_in (t := t) a1 a2; omega)]; exact h1 i a1 a2 a3
  · rw [kL _ _ (by omega)]; exact h2.1 k hk
  · rw [kL _ _ (by omega)]; exact h2.2 k hk
  · rw [kL _ _ (by omega), kL _ _ (by omega)]; exact h3 x hx
  · rw [kI _ _ (by omega)]; exact h4.1
  · rw [kI _ _ (by omega)]; exact h4.2 j hj
  · rw [kI _ _ (by omega), kI _ _ (by omega), kI _ _ (by omega)]; exact h5 w hw
section CNAMES
variable {G : q_G} {d : Nat} {σ σ' : q_S} {Q : Option Value → q_S → Prop} {tp : List Nat} {i t : Nat} {s : q_ts} {S : List Int32} {D : Nat → Nat} {N : q_nm} {l : List Nat}
theorem WN.ok {x : List Nat × Nat} (hN : WN D N) (hx : x ∈ N) : okL x.1 := ⟨(hN.2.1 x hx).2.1, (hN.2.1 x hx).2.2.2⟩
theorem Tw_house_ok (ht : q_isTw t) (hs : q_Sh σ) (h6 : D 0 ≤ 6) (h16 : D 1 ≤ 6) (hN : WN D N) (hC : CN σ t N) (h13 : q_I σ t 13 = nI (D 0)) (hl : okL l) (hq : Q (some (.int (adI (tdL N 0 l)))) σ) : q_Call G d 0 0 X_Tw_houseNamed [.ref t, .long (lN (e32 l))] σ Q := by
  refine q_ci (by decide +kernel) (Nat.le_of_ble_eq_true rfl) (fun Q hq => ?_) hq
  refine v_Tw_houseNamed_0 ht hs ?_
  refine up_ind (R := fun k => (∀ j, j < k → (l, j) ∉ N) → q_At G X_Tw_houseNamed d 0 0 2 [some (.ref t), some (.long (lN (e32 l))), none, some (.int (nI k))] [] σ Q) (n := D 0) (fun hn => ?_) (fun k hk ih hn => ?_) 0 (Nat.zero_le _) (fun j hj => absurd hj (Nat.not_lt_zero j))
  · refine v_Tw_houseNamed_2 ht hs ⟨fun _ => ?_, fun c => absurd (by rw [h13]; exact Int32.le_refl _) c⟩
    cases e : tdL N 0 l with
    | none => rw [e] at hq; exact hq
    | some v =>
      obtain ⟨e1, e2⟩ := (tdL_some hN.2.2.1).mp e
      rw [Nat.zero_add] at e1
      have h1 : v < D 0 ∨ (20 ≤ v ∧ v < 20 + D 1) := (hN.2.1 _ e1).1
      exact absurd e1 (hn v (by omega))
  · obtain ⟨l', hl'⟩ := hN.2.2.2.1 k hk
    have hL : q_L σ (t + 1) k = lN (e32 l') := (hC _ hl').1 (show k < 20 by omega)
    refine v_Tw_houseNamed_2 ht hs ⟨fun c => by rw [h13] at c; exact ge_not c hk (by omega), fun _ => ⟨k, rfl, by omega, fun c => ?_, fun c => ?_⟩⟩
    · rw [cmp_eq, hL, e32_eq (hN.ok hl') hl] at c
      rw [nI_1]
      refine ih (fun j hj z => ?_)
      by_cases e : j = k
      · subst e
        exact c (congrArg Prod.fst (hN.2.2.1 _ hl' _ z (Or.inr rfl)))
      · exact hn j (by omega) z
    · rw [cmp_eq, hL, e32_eq (hN.ok hl') hl] at c
      have : tdL N 0 l = some k := (tdL_some hN.2.2.1).mpr ⟨by rw [Nat.zero_add, ← c]; exact hl', by omega⟩
      rw [this] at hq
      exact hq
theorem Tw_fam_ok (ht : q_isTw t) (hs : q_Sh σ) (h6 : D 0 ≤ 6) (h16 : D 1 ≤ 6) (hN : WN D N) (hC : CN σ t N) (h13 : q_I σ t 14 = nI (D 1)) (hl : okL l) (hq : Q (some (.int (adI (tdL N 20 l)))) σ) : q_Call G d 0 0 X_Tw_familyNamed [.ref t, .long (lN (e32 l))] σ Q := by
  refine q_ci (by decide +kernel) (Nat.le_of_ble_eq_true rfl) (fun Q hq => ?_) hq
  refine v_Tw_familyNamed_0 ht hs ?_
  refine up_ind (R := fun k => (∀ j, j < k → (l, 20 + j) ∉ N) → q_At G X_Tw_familyNamed d 0 0 2 [some (.ref t), some (.long (lN (e32 l))), none, some (.int (nI k))] [] σ Q) (n := D 1) (fun hn => ?_) (fun k hk ih hn => ?_) 0 (Nat.zero_le _) (fun j hj => absurd hj (Nat.not_lt_zero j))
  · refine v_Tw_familyNamed_2 ht hs ⟨fun _ => ?_, fun c => absurd (by rw [h13]; exact Int32.le_refl _) c⟩
    cases e : tdL N 20 l with
    | none => rw [e] at hq; exact hq
    | some v =>
      obtain ⟨e1, e2⟩ := (tdL_some hN.2.2.1).mp e
      have h1 : 20 + v < D 0 ∨ (20 ≤ 20 + v ∧ 20 + v < 20 + D 1) := (hN.2.1 _ e1).1
      exact absurd e1 (hn v (by omega))
  · obtain ⟨l', hl'⟩ := hN.2.2.2.2 k hk
    have hL : q_L σ (t + 2) k = lN (e32 l') := by
      have := (hC _ hl').2 (show 20 ≤ 20 + k by omega)
      have e : (l', 20 + k).2 - 20 = k := by show 20 + k - 20 = k; omega
      rwa [e] at this
    refine v_Tw_familyNamed_2 ht hs ⟨fun c => by rw [h13] at c; exact ge_not c hk (by omega), fun _ => ⟨k, rfl, by omega, fun c => ?_, fun c => ?_⟩⟩
    · rw [cmp_eq, hL, e32_eq (hN.ok hl') hl] at c
      rw [nI_1]
      refine ih (fun j hj z => ?_)
      by_cases e : j = k
      · subst e
        exact c (congrArg Prod.fst (hN.2.2.1 _ hl' _ z (Or.inr rfl)))
      · exact hn j (by omega) z
    · rw [cmp_eq, hL, e32_eq (hN.ok hl') hl] at c
      have : tdL N 20 l = some k := (tdL_some hN.2.2.1).mpr ⟨by rw [← c]; exact hl', by omega⟩
      rw [this] at hq
      exact hq
theorem CTd.v {i a b F : Nat} (h : CTd σ t D F) (h1 : i < 176) (h2 : i < 5 ∨ 8 ≤ i) (h3 : 44 + 4 * F ≤ i → 68 ≤ i) (e : cloc t i = (a, b)) : q_I σ a b = nI (D i) := by
  have := h i h1 h2 h3
  rwa [e] at this
-- what the names need of a town
def TNm (σ : q_S) (t : Nat) (D : Nat → Nat) (N : q_nm) : Prop := D 0 ≤ 6 ∧ D 1 ≤ 6 ∧ WN D N ∧ CN σ t N ∧ q_I σ t 13 = nI (D 0) ∧ q_I σ t 14 = nI (D 1)
theorem TNm.k {SI SL : Nat → Nat → Prop} (ht : q_isTw t) (h : TNm σ t D N) (hf : Fk SI SL σ σ') (hI : ∀ a i, SI a i → a < 27) (hL : ∀ a i, SL a i → a < 27) : TNm σ' t D N := by
  have h0 := isTw_cases ht
  have kI : ∀ a i, 27 ≤ a → q_I σ' a i = q_I σ a i := fun a i z => hf.2.2.1 _ _ (fun y => by have := hI _ _ y; omega)
  have kL : ∀ a i, 27 ≤ a → q_L σ' a i = q_L σ a i := fun a i z => hf.2.2.2 _ _ (fun y => by have := hL _ _ y; omega)
  refine ⟨h.1, h.2.1, h.2.2.1, fun x hx => ?_, by rw [kI _ _ (by omega)]; exact h.2.2.2.2.1, by rw [kI _ _ (by omega)]; exact h.2.2.2.2.2⟩
  rw [kL _ _ (by omega), kL _ _ (by omega)]
  exact h.2.2.2.1 x hx
theorem CTr.nm (h : CTr σ t s S) (hW : WS s) : TNm σ t s.1 s.2.2.2 := ⟨hW.1.2.1, hW.1.F6, hW.2.2.1, h.2.2.1, h.1.v (i := 0) (by decide) (by decide) (by omega) rfl, h.1.v (i := 1) (by decide) (by decide) (by omega) rfl⟩
theorem tk_ok (h : (tk tp i).1 = 1) : okL (tk tp i).2.2.2 := (tkA_w h).1
theorem tdF_of {T : q_tk} {b : Nat} (hn : isNm T = true) : tdF N b T = if (tdL N b T.2.2.2).isSome = true then 0 else 2 := by unfold tdF; rw [if_pos hn]
theorem tdL_lt (hN : WN D N) (h0 : D 0 ≤ 6) (h1 : D 1 ≤ 6) {b v : Nat} (hb : b = 0 ∨ b = 20) (h : tdL N b l = some v) : v < 6 := by
  obtain ⟨e1, e2⟩ := (tdL_some hN.2.2.1).mp h
  have h1 : b + v < D 0 ∨ (20 ≤ b + v ∧ b + v < 20 + D 1) := (hN.2.1 _ e1).1
  omega
theorem Rd_told_ok {b : Nat} {p1 : Int32} (hb : (b = 0 ∧ p1 = 1) ∨ (b = 20 ∧ p1 = 0)) (hd : 1 ≤ d) (ht : q_isTw t) (hs : q_Sh σ) (hK : CK σ tp i) (hT : TNm σ t D N) (hq1 : tdF N b (tk tp i) = 0 → Q (some (.int (nI (tdX N b (tk tp i))))) σ) (hq0 : tdF N b (tk tp i) ≠ 0 → ∀ σ', Fr S39 noL σ σ' → q_I σ' 3 9 = nI (flt tp (tdF N b (tk tp i)) i) → Q (some (.int (-1))) σ') : q_Call G d 0 0 X_Rd_toldHere [.ref 4, .ref t, .int p1] σ Q := by
  obtain ⟨d, rfl⟩ : ∃ d', d = d' + 1 := ⟨d - 1, by omega⟩
  refine q_cii (Pp := fun v σ' => (tdF N b (tk tp i) = 0 ∧ v = nI (tdX N b (tk tp i)) ∧ σ' = σ) ∨ (tdF N b (tk tp i) ≠ 0 ∧ v = -1 ∧ Fr S39 noL σ σ' ∧ q_I σ' 3 9 = nI (flt tp (tdF N b (tk tp i)) i))) (by decide +kernel) (Nat.le_of_ble_eq_true rfl) (fun Q hv => ?_) (fun v σ' h => by
    rcases h with ⟨a, b, c⟩ | ⟨a, b, c, e⟩
    · rw [b, c]; exact hq1 a
    · rw [b]; exact hq0 a σ' c e)
  obtain ⟨t1, t2, t3, t4, t5, t6⟩ := hT
  -- behind the look-up
  have beh : isNm (tk tp i) = true → (¬ adI (tdL N b (tk tp i).2.2.2) = -1 → Q (some (.int (adI (tdL N b (tk tp i).2.2.2)))) σ) ∧ (adI (tdL N b (tk tp i).2.2.2) = -1 → q_Call G d 0 0 X_Tk_refuse [.ref 3, .int 2] σ (q_ri (fun x19 σ17 => Q (some (.int (adI (tdL N b (tk tp i).2.2.2)))) σ17))) := fun hn => by
    have eF := tdF_of (N := N) (b := b) hn
    cases e : tdL N b (tk tp i).2.2.2 with
    | none =>
      rw [e] at eF
      have eF : tdF N b (tk tp i) = 2 := eF
      refine ⟨fun c => absurd rfl c, fun _ => ?_⟩
      exact Tk_refuse_ok (k := 2) hs hK (fun σ' f g => ⟨f.sh hs, _, rfl, hv _ _ (Or.inr ⟨by omega, rfl, f, by rw [eF]; exact g⟩)⟩)
    | some v =>
      rw [e] at eF
      have eF : tdF N b (tk tp i) = 0 := eF
      have hv6 := tdL_lt t3 t1 t2 (by omega) e
      refine ⟨fun _ => hv _ _ (Or.inl ⟨eF, ?_, rfl⟩), fun c => absurd c (nm1 v (by omega))⟩
      unfold tdX
      rw [e]
      rfl
  refine v_Rd_toldHere_0 ht hs (Tk_isName_ok hs hK ⟨hs, _, rfl, fun c => ?_, fun c => ?_⟩)
  · have hn : isNm (tk tp i) = true := Classical.byContradiction (fun z => c (by rw [if_neg z]))
    have h1 := (isNm_t.mp hn).1
    have eL : q_L σ 3 5 = lN (e32 (tk tp i).2.2.2) := (hK.2.2.2.2.1 h1).1
    rw [eL]
    rcases hb with ⟨b0, p0⟩ | ⟨b0, p0⟩
    · subst b0 p0
      refine ⟨fun z => absurd z (by decide), fun _ => Tw_house_ok ht hs t1 t2 t3 t4 t5 (tk_ok h1) ⟨hs, _, rfl, beh hn⟩⟩
    · subst b0 p0
      refine ⟨fun _ => Tw_fam_ok ht hs t1 t2 t3 t4 t6 (tk_ok h1) ⟨hs, _, rfl, beh hn⟩, fun z => absurd rfl z⟩
  · have hn : ¬ isNm (tk tp i) = true := fun z => by rw [if_pos z] at c; exact absurd c (by decide)
    have eF : tdF N b (tk tp i) = 1 := by unfold tdF; rw [if_neg hn]
    exact Tk_refuse_ok (k := 1) hs hK (fun σ' f g => ⟨f.sh hs, _, rfl, hv _ _ (Or.inr ⟨by omega, rfl, f, by rw [eF]; exact g⟩)⟩)
theorem Rd_two_ok {b : Nat} {p1 : Int32} (hb : (b = 0 ∧ p1 = 1) ∨ (b = 20 ∧ p1 = 0)) (hd : 7 ≤ d) (ht : q_isTw t) (hs : q_Sh σ) (hw : WTp tp) (hK : CK σ tp i) (hz : q_I σ 3 9 = 0) (hT : TNm σ t D N) (hq1 : (twF tp N b i).1 = 0 → ∀ σ', Fk S4 SKl σ σ' → CK σ' tp (i + 1) → q_I σ' 4 1 = nI (tdX N b (tk tp i)) → q_I σ' 4 2 = nI (tdX N b (tk tp (i + 1))) → q_I σ' 3 9 = 0 → Q (some (.int 1)) σ') (hq0 : (twF tp N b i).1 ≠ 0 → ∀ σ', Fk S4 SKl σ σ' → q_I σ' 3 9 = nI (flt tp (twF tp N b i).1 (twF tp N b i).2) → Q (some (.int 0)) σ') : q_Call G d 0 0 X_Rd_readTwo [.ref 4, .ref t, .int p1] σ Q := by
  obtain ⟨d, rfl⟩ : ∃ d', d = d' + 1 := ⟨d - 1, by omega⟩
  refine q_cii (Pp := fun v σ' => ((twF tp N b i).1 = 0 ∧ v = 1 ∧ Fk S4 SKl σ σ' ∧ CK σ' tp (i + 1) ∧ q_I σ' 4 1 = nI (tdX N b (tk tp i)) ∧ q_I σ' 4 2 = nI (tdX N b (tk tp (i + 1))) ∧ q_I σ' 3 9 = 0) ∨ ((twF tp N b i).1 ≠ 0 ∧ v = 0 ∧ Fk S4 SKl σ σ' ∧ q_I σ' 3 9 = nI (flt tp (twF tp N b i).1 (twF tp N b i).2))) (by decide +kernel) (Nat.le_of_ble_eq_true rfl) (fun Q hv => ?_) (fun v σ' h => by
    rcases h with ⟨a, b, c, e, f, g, h⟩ | ⟨a, b, c, e⟩
    · rw [b]; exact hq1 a σ' c e f g h
    · rw [b]; exact hq0 a σ' c e)
  have t1 := hT.1
  have t2 := hT.2.1
  have t3 := hT.2.2.1
  have x6 : ∀ T : q_tk, tdF N b T = 0 → tdX N b T < 6 := fun T h => by
    unfold tdF at h
    unfold tdX
    by_cases c : isNm T = true
    · rw [if_pos c] at h
      cases e : tdL N b T.2.2.2 with
      | none => rw [e] at h; exact absurd h (by decide)
      | some v => exact tdL_lt t3 t1 t2 (by omega) e
    · rw [if_neg c] at h; exact absurd h (by decide)
  have F9 : ∀ {σ1 σ2 : q_S}, Fr S39 noL σ1 σ2 → Fk S4 SKl σ1 σ2 := fun h => h.k.mono (fun a j z => Or.inl z.1) (fun _ _ z => z.elim)
  have F4 : ∀ {σ1 : q_S} {j : Nat} {v : Int32}, Fk S4 SKl σ1 (q_setI σ1 4 j v) := fun {_ _ _} => (Fr.setI (Or.inr rfl)).k
  have FA : ∀ {σ1 σ2 : q_S}, Fk SKa SKl σ1 σ2 → Fk S4 SKl σ1 σ2 := fun h => h.mono (fun a j z => Or.inl z.1) (fun _ _ z => z)
  have lt27 : ∀ a j, S4 a j → a < 27 := fun a j z => by unfold S4 at z; omega
  have lt27' : ∀ a j, SKl a j → a < 27 := fun a j z => by unfold SKl at z; omega
  refine v_Rd_readTwo_0 ht hs (Rd_told_ok hb (by omega) ht hs hK hT (fun e1 => ⟨hs, _, rfl, ?_⟩) (fun e1 σ1 f1 z1 => ⟨f1.sh hs, _, rfl, ?_⟩))
  · have a6 := x6 _ e1
    refine ⟨fun _ => ?_, fun c => absurd (by rw [q_I_eq] at c; exact c) (nm1 _ (by omega))⟩
    have K1 : CK (q_setI σ 4 1 (nI (tdX N b (tk tp i)))) tp i := hK.k (SI := fun a j => a = 4 ∧ j = 1) (SL := noL) (Fr.setI ⟨rfl, rfl⟩) (fun a j z => by omega) (fun _ _ z => z.elim)
    have hs1 : q_Sh (q_setI σ 4 1 (nI (tdX N b (tk tp i)))) := (F4 (σ1 := σ)).sh hs
    refine Tk_next (by omega) hs1 hw K1 (fun σ2 f2 k2 => ⟨f2.sh hs1, rfl, ?_⟩)
    have F2 : Fk S4 SKl σ σ2 := F4.tr (FA f2)
    have hs2 := F2.sh hs
    have g41 : q_I σ2 4 1 = nI (tdX N b (tk tp i)) := by rw [f2.2.2.1 _ _ (fun z => absurd z.1 (by decide)), q_I_eq]
    have g39 : q_I σ2 3 9 = 0 := by rw [f2.2.2.1 _ _ (fun z => absurd z.2 (by decide)), q_I_ne (by decide)]; exact hz
    refine Rd_told_ok hb (by omega) ht hs2 k2 (hT.k ht F2 lt27 lt27') (fun e2 => ⟨hs2, _, rfl, ?_⟩) (fun e2 σ3 f3 z3 => ⟨f3.sh hs2, _, rfl, ?_⟩)
    · have b6 := x6 _ e2
      have K3 : CK (q_setI σ2 4 2 (nI (tdX N b (tk tp (i + 1))))) tp (i + 1) := k2.k (SI := fun a j => a = 4 ∧ j = 2) (SL := noL) (Fr.setI ⟨rfl, rfl⟩) (fun a j z => by omega) (fun _ _ z => z.elim)
      have F3 : Fk S4 SKl σ (q_setI σ2 4 2 (nI (tdX N b (tk tp (i + 1))))) := F2.tr F4
      have hs3 := F3.sh hs
      have h41 : q_I (q_setI σ2 4 2 (nI (tdX N b (tk tp (i + 1))))) 4 1 = nI (tdX N b (tk tp i)) := by rw [q_I_ne (by decide)]; exact g41
      have h42 : q_I (q_setI σ2 4 2 (nI (tdX N b (tk tp (i + 1))))) 4 2 = nI (tdX N b (tk tp (i + 1))) := q_I_eq
      refine ⟨fun _ => ?_, fun c => absurd (by rw [q_I_eq] at c; exact c) (nm1 _ (by omega))⟩
      rw [h41, h42]
      refine ⟨fun c => hv _ _ (Or.inl ⟨?_, rfl, F3, K3, h41, h42, by rw [q_I_ne (by decide)]; exact g39⟩), fun c => ?_⟩
      · rw [nI_eq (by omega) (by omega)] at c
        unfold twF
        rw [if_pos e1, if_pos e2, if_neg c]
      · rw [nI_eq (by omega) (by omega)] at c
        have et : twF tp N b i = (3, i + 1) := by unfold twF; rw [if_pos e1, if_pos e2, if_pos c]
        refine Tk_refuse_ok (k := 3) hs3 K3 (fun σ4 f4 z4 => ⟨f4.sh hs3, _, rfl, rfl, hv _ _ (Or.inr ⟨by rw [et]; exact (by decide : (3 : Nat) ≠ 0), rfl, F3.tr (F9 f4), by rw [et]; exact z4⟩)⟩)
    · have et : twF tp N b i = (tdF N b (tk tp (i + 1)), i + 1) := by unfold twF; rw [if_pos e1, if_neg e2]
      refine ⟨fun c => absurd q_I_eq c, fun _ => hv _ _ (Or.inr ⟨by rw [et]; exact e2, rfl, (F2.tr (F9 f3)).tr F4, ?_⟩)⟩
      rw [q_I_ne (by decide), et]
      exact z3
  · have et : twF tp N b i = (tdF N b (tk tp i), i) := by unfold twF; rw [if_neg e1]
    refine ⟨fun c => absurd q_I_eq c, fun _ => hv _ _ (Or.inr ⟨by rw [et]; exact e1, rfl, (F9 f1).tr F4, ?_⟩)⟩
    rw [q_I_ne (by decide), et]
    exact z1
theorem Rd_new_ok (hd : 1 ≤ d) (ht : q_isTw t) (hs : q_Sh σ) (hK : CK σ tp i) (hT : TNm σ t D N) (hq1 : nwF N (tk tp i) = 0 → Q (some (.int 1)) σ) (hq0 : nwF N (tk tp i) ≠ 0 → ∀ σ', Fr S39 noL σ σ' → q_I σ' 3 9 = nI (flt tp (nwF N (tk tp i)) i) → Q (some (.int 0)) σ') : q_Call G d 0 0 X_Rd_isNewName [.ref 4, .ref t] σ Q := by
  obtain ⟨d, rfl⟩ : ∃ d', d = d' + 1 := ⟨d - 1, by omega⟩
  refine q_cii (Pp := fun v σ' => (nwF N (tk tp i) = 0 ∧ v = 1 ∧ σ' = σ) ∨ (nwF N (tk tp i) ≠ 0 ∧ v = 0 ∧ Fr S39 noL σ σ' ∧ q_I σ' 3 9 = nI (flt tp (nwF N (tk tp i)) i))) (by decide +kernel) (Nat.le_of_ble_eq_true rfl) (fun Q hv => ?_) (fun v σ' h => by
    rcases h with ⟨a, b, c⟩ | ⟨a, b, c, e⟩
    · rw [b, c]; exact hq1 a
    · rw [b]; exact hq0 a σ' c e)
  obtain ⟨t1, t2, t3, t4, t5, t6⟩ := hT
  refine v_Rd_isNewName_0 ht hs (Tk_isName_ok hs hK ⟨hs, _, rfl, fun c => ?_, fun c => ?_⟩)
  · have hn : isNm (tk tp i) = true := Classical.byContradiction (fun z => c (by rw [if_neg z]))
    have h1 := (isNm_t.mp hn).1
    have eL : q_L σ 3 5 = lN (e32 (tk tp i).2.2.2) := (hK.2.2.2.2.1 h1).1
    have bad : (lkN N (tk tp i).2.2.2).isSome = true → nwF N (tk tp i) = 3 := fun z => by unfold nwF; rw [if_pos hn, if_pos z]
    have lk : ∀ b v, tdL N b (tk tp i).2.2.2 = some v → (lkN N (tk tp i).2.2.2).isSome = true := fun b v e => by
      have := (lkN_mem t3.2.2.1).mpr ((tdL_some t3.2.2.1).mp e).1
      rw [this]
      rfl
    have ref : nwF N (tk tp i) = 3 → q_Call G d 0 0 X_Tk_refuse [.ref 3, .int 3] σ (q_ri (fun x17 σ15 => (narrow .boolean (.int (if x17 = 0 then (0 : Int32) else (1 : Int32))) = .int (if x17 = 0 then (0 : Int32) else (1 : Int32)) ∧ Q (some (.int (if x17 = 0 then (0 : Int32) else (1 : Int32)))) σ15))) := fun e => Tk_refuse_ok (k := 3) hs hK (fun σ' f g => ⟨f.sh hs, _, rfl, rfl, hv _ _ (Or.inr ⟨by omega, rfl, f, by rw [e]; exact g⟩)⟩)
    rw [eL]
    refine Tw_house_ok ht hs t1 t2 t3 t4 t5 (tk_ok h1) ⟨hs, _, rfl, fun c1 => ?_, fun c1 => ?_⟩
    · cases e : tdL N 0 (tk tp i).2.2.2 with
      | none => rw [e] at c1; exact absurd rfl c1
      | some v => exact ref (bad (lk 0 v e))
    · rw [eL]
      refine Tw_fam_ok ht hs t1 t2 t3 t4 t6 (tk_ok h1) ⟨hs, _, rfl, fun c2 => ?_, fun c2 => ?_⟩
      · rw [if01] at c2
        refine hv _ _ (Or.inl ⟨?_, rfl, rfl⟩)
        unfold nwF
        rw [if_pos hn, if_neg]
        intro z
        obtain ⟨v, hv⟩ := Option.isSome_iff_exists.mp z
        have hm := (lkN_mem t3.2.2.1).mp hv
        have h1 : v < D 0 ∨ (20 ≤ v ∧ v < 20 + D 1) := (t3.2.1 _ hm).1
        rcases h1 with h1 | h1
        · have : tdL N 0 (tk tp i).2.2.2 = some v := (tdL_some t3.2.2.1).mpr ⟨by rw [Nat.zero_add]; exact hm, by omega⟩
          rw [this] at c1
          exact absurd c1 (nm1 v (by omega))
        · have : tdL N 20 (tk tp i).2.2.2 = some (v - 20) := (tdL_some t3.2.2.1).mpr ⟨by rw [show 20 + (v - 20) = v by omega]; exact hm, by omega⟩
          rw [this] at c2
          exact absurd c2 (nm1 (v - 20) (by omega))
      · rw [if01] at c2
        cases e : tdL N 20 (tk tp i).2.2.2 with
        | none => rw [e] at c2; exact absurd rfl c2
        | some v => exact ref (bad (lk 20 v e))
  · have hn : ¬ isNm (tk tp i) = true := fun z => by rw [if_pos z] at c; exact absurd c (by decide)
    have eF : nwF N (tk tp i) = 1 := by unfold nwF; rw [if_neg hn]
    exact Tk_refuse_ok (k := 1) hs hK (fun σ' f g => ⟨f.sh hs, _, rfl, rfl, hv _ _ (Or.inr ⟨by omega, rfl, f, by rw [eF]; exact g⟩)⟩)
end CNAMES
