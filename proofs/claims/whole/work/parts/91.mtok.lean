-- what the reference does with tokens
def MK (σ : q_S) (tp : List Nat) (M i : Nat) : Prop := CUT σ tp M ∧ q_I σ 159 7 = nI i ∧ q_I σ 159 8 = 0 ∧ i ≤ M ∧ M ≤ 1000
def FX (σ : q_S) (v : Int32) : Prop := q_I σ 159 8 = v ∧ ¬ v = 0 ∧ ¬ v ≤ 0
def S7 : Nat → Nat → Prop := fun a i => a = 159 ∧ i = 7
def S8 : Nat → Nat → Prop := fun a i => a = 159 ∧ i = 8
def S78 : Nat → Nat → Prop := fun a i => a = 159 ∧ (i = 7 ∨ i = 8)
theorem q_setI_self {σ : q_S} {a i : Nat} : q_setI σ a i (q_I σ a i) = σ := by
  obtain ⟨n, I, L, R⟩ := σ
  have : (fun a' i' => if a' = a ∧ i' = i then I a i else I a' i') = I := by
    funext a' i'
    by_cases c : a' = a ∧ i' = i
    · rw [if_pos c, c.1, c.2]
    · rw [if_neg c]
  show (n, (fun a' i' => if a' = a ∧ i' = i then I a i else I a' i'), L, R) = _
  rw [this]
theorem flt_pos {tp : List Nat} {k i : Nat} (hl : tp.length ≤ 1000) (hk : k ≠ 0) (h9 : k ≤ 9) : ¬ nI (flt tp k i) = 0 ∧ ¬ nI (flt tp k i) ≤ 0 := by
  have := ps_le (tp := tp) i
  have h : 0 < flt tp k i ∧ flt tp k i < 2 ^ 31 := by unfold flt; omega
  exact ⟨nI_ne0 h.1 h.2, nI_nle h.1 h.2⟩
def whT (T : q_tk) (f m : Nat) : Int32 := if T.1 = 1 ∧ f ≤ T.2.2.1 ∧ T.2.2.1 < f + m then nI (T.2.2.1 - f) else -1
theorem whT_1 {T : q_tk} {f m : Nat} (h : T.1 = 1 ∧ f ≤ T.2.2.1 ∧ T.2.2.1 < f + m) : whT T f m = nI (T.2.2.1 - f) := if_pos h
theorem whT_0 {T : q_tk} {f m : Nat} (h : ¬ (T.1 = 1 ∧ f ≤ T.2.2.1 ∧ T.2.2.1 < f + m)) : whT T f m = -1 := if_neg h
section MTOK
variable {G : q_G} {d : Nat} {σ σ' : q_S} {Q : Option Value → q_S → Prop} {tp : List Nat} {M i : Nat}
theorem MK.fr {SI SL : Nat → Nat → Prop} (h : MK σ tp M i) (hf : Fr SI SL σ σ') (hI : ∀ a j, SI a j → ¬ (a = 161 ∨ a = 162 ∨ (a = 159 ∧ (j = 7 ∨ j = 8)))) (hL : ∀ a j, SL a j → ¬ (a = 163 ∨ a = 164)) : MK σ' tp M i := by
  obtain ⟨⟨h1, h2⟩, h3, h4, h5, h6⟩ := h
  refine ⟨⟨fun j hj => (h1 j hj).fr hf (fun a i z y => hI a i z (by omega)) (fun a i z y => hL a i z (by omega)), fun k hk => by rw [hf.2.2.2 _ _ (fun z => hL _ _ z (Or.inr rfl))]; exact h2 k hk⟩, ?_, ?_, h5, h6⟩
  · rw [hf.2.2.1 _ _ (fun z => hI _ _ z (by omega))]; exact h3
  · rw [hf.2.2.1 _ _ (fun z => hI _ _ z (by omega))]; exact h4
theorem MK.at {j : Nat} (h : MK σ tp M i) (hj : j ≤ M) : MK (q_setI σ 159 7 (nI j)) tp M j := by
  obtain ⟨⟨h1, h2⟩, h3, h4, h5, h6⟩ := h
  exact ⟨⟨fun q hq => (h1 q hq).fr (SI := S7) (SL := noL) (Fr.setI ⟨rfl, rfl⟩) (fun a i z y => by unfold S7 at z; omega) (fun _ _ z => z.elim), h2⟩, q_I_eq, by rw [q_I_ne (by decide)]; exact h4, hj, h6⟩
theorem MK.me (h : MK σ tp M i) : MKa σ tp i := h.1.1 i h.2.2.2.1
theorem MK.nx (h : MK σ tp M i) : q_setI σ 159 7 (q_I σ 159 7 + 1) = q_setI σ 159 7 (nI (i + 1)) := by rw [h.2.1, nI_1]
theorem FX.fr {SI SL : Nat → Nat → Prop} {v : Int32} (h : FX σ v) (hf : Fr SI SL σ σ') (hI : ∀ a j, SI a j → ¬ (a = 159 ∧ j = 8)) : FX σ' v := ⟨by rw [hf.2.2.1 _ _ (fun z => hI _ _ z ⟨rfl, rfl⟩)]; exact h.1, h.2⟩
theorem FX.n0 {v : Int32} (h : FX σ v) : ¬ q_I σ 159 8 = 0 := by rw [h.1]; exact h.2.1
theorem FX.nle {v : Int32} (h : FX σ v) : ¬ q_I σ 159 8 ≤ 0 := by rw [h.1]; exact h.2.2
theorem M_wrong_no {k : Int32} {v : Int32} (hs : q_Sh σ) (hF : FX σ v) (hq : Q none σ) : q_Call G d 0 0 X_M_wrong [.ref 159, .int k] σ Q := by
  refine q_cv0 (P := fun σ' => σ' = σ) (by decide +kernel) (Nat.le_of_ble_eq_true rfl) (fun Q hq => ?_) (fun σ' h => by rw [h]; exact hq)
  exact v_M_wrong_0 hs ⟨fun _ => hq _ rfl, fun c => absurd c hF.n0⟩
theorem M_wrong_ok {k : Nat} (hs : q_Sh σ) (hK : MK σ tp M i) (hl : tp.length ≤ 1000) (hk : k ≠ 0) (h9 : k ≤ 9) (hq : ∀ σ', Fr S78 noL σ σ' → FX σ' (nI (flt tp k i)) → Q none σ') : q_Call G d 0 0 X_M_wrong [.ref 159, .int (nI k)] σ Q := by
  refine q_cv0 (P := fun σ' => Fr S78 noL σ σ' ∧ FX σ' (nI (flt tp k i))) (by decide +kernel) (Nat.le_of_ble_eq_true rfl) (fun Q hq => ?_) (fun σ' h => hq σ' h.1 h.2)
  have := hK.2.2.2
  refine v_M_wrong_0 hs ⟨fun c => absurd hK.2.2.1 c, fun _ => ⟨i, hK.2.1, by omega, hq _ ⟨Fr.setI ⟨rfl, Or.inr rfl⟩, ?_, flt_pos hl hk h9⟩⟩⟩
  rw [q_I_eq, hK.me.2.1, show (16 : Int32) = nI 16 from rfl, pk_mul, nI_add]
  rfl
theorem tk_s3 (hw : WTp tp) (h : (tk tp i).1 = 3) : (tk tp i).2.2.1 < 127 := tkA_s hw h
theorem M_isSign_no {c v : Int32} (hs : q_Sh σ) (hF : FX σ v) (hq : Q (some (.int 0)) σ) : q_Call G d 0 0 X_M_isSign [.ref 159, .int c] σ Q := by
  refine q_ci (by decide +kernel) (Nat.le_of_ble_eq_true rfl) (fun Q hq => ?_) hq
  exact v_M_isSign_0 hs ⟨fun _ => hq, fun c => absurd c hF.n0⟩
theorem M_isSign_ok {c : Nat} (hc : c < 128) (hw : WTp tp) (hs : q_Sh σ) (hK : MK σ tp M i) (hq : Q (some (.int (if isS (tk tp i) c = true then 1 else 0))) σ) : q_Call G d 0 0 X_M_isSign [.ref 159, .int (nI c)] σ Q := by
  refine q_ci (by decide +kernel) (Nat.le_of_ble_eq_true rfl) (fun Q hq => ?_) hq
  have := hK.2.2.2
  obtain ⟨m1, m2, m3, m4⟩ := hK.me
  have h4 := tk_sort (tp := tp) i
  have e3 : (q_I σ 161 i = 3) ↔ (tk tp i).1 = 3 := by rw [m1]; exact nI_eq (b := 3) (by omega) (by decide)
  refine v_M_isSign_0 hs ⟨fun c => absurd hK.2.2.1 c, fun _ => ⟨i, hK.2.1, by omega, fun c3 => ?_, fun c3 => ⟨i, hK.2.1, by omega, ?_⟩⟩⟩
  · rw [e3] at c3
    rw [if_neg (fun z => c3 (isS_t.mp z).1)] at hq
    exact hq
  · rw [e3] at c3
    have h7 := tk_s3 hw c3
    have e : (lg_cmp (q_L σ 163 i) (nI c).toInt64 = 0) ↔ isS (tk tp i) c = true := by
      rw [cmp_eq, m4 (Or.inr c3), nI_l (by omega), pk_lEQ (by omega) (by omega), isS_t]
      exact ⟨fun z => ⟨c3, z⟩, fun z => z.2⟩
    simp only [e]
    exact ⟨q_nb01, hq⟩
theorem M_isWord_no {c v : Int32} (hs : q_Sh σ) (hF : FX σ v) (hq : Q (some (.int 0)) σ) : q_Call G d 0 0 X_M_isWord [.ref 159, .int c] σ Q := by
  refine q_ci (by decide +kernel) (Nat.le_of_ble_eq_true rfl) (fun Q hq => ?_) hq
  exact v_M_isWord_0 hs ⟨fun _ => hq, fun c => absurd c hF.n0⟩
theorem M_isWord_ok {c : Nat} (hc : c < 33) (hs : q_Sh σ) (hK : MK σ tp M i) (hq : Q (some (.int (if isW (tk tp i) c = true then 1 else 0))) σ) : q_Call G d 0 0 X_M_isWord [.ref 159, .int (nI c)] σ Q := by
  refine q_ci (by decide +kernel) (Nat.le_of_ble_eq_true rfl) (fun Q hq => ?_) hq
  have := hK.2.2.2
  obtain ⟨m1, m2, m3, m4⟩ := hK.me
  have h4 := tk_sort (tp := tp) i
  have e3 : (q_I σ 161 i = 1) ↔ (tk tp i).1 = 1 := by rw [m1]; exact nI_eq (b := 1) (by omega) (by decide)
  refine v_M_isWord_0 hs ⟨fun c => absurd hK.2.2.1 c, fun _ => ⟨i, hK.2.1, by omega, fun c3 => ?_, fun c3 => ⟨i, hK.2.1, by omega, c, rfl, hc, ?_⟩⟩⟩
  · rw [e3] at c3
    rw [if_neg (fun z => c3 (isW_t.mp z).1)] at hq
    exact hq
  · rw [e3] at c3
    obtain ⟨k1, k2, k3⟩ := tkA_w (p := ps tp i) c3
    have e : (lg_cmp (q_L σ 163 i) (q_L σ 164 c) = 0) ↔ isW (tk tp i) c = true := by
      rw [cmp_eq, m3 c3, hK.1.2 c hc, wls_37 c hc, isW_t]
      refine Iff.trans (e37_eq k1 (wls_okL hc)) ?_
      have k3 : (tk tp i).2.2.1 = wix (tk tp i).2.2.2 := k3
      rw [k3]
      exact ⟨fun z => ⟨c3, (wix_eq hc).mp z.symm⟩, fun z => ((wix_eq hc).mpr z.2).symm⟩
    simp only [e]
    exact ⟨q_nb01, hq⟩
theorem M_takeSign_no {c v : Int32} (hd : 1 ≤ d) (hs : q_Sh σ) (hF : FX σ v) (hq : Q none σ) : q_Call G d 0 0 X_M_takeSign [.ref 159, .int c] σ Q := by
  obtain ⟨d, rfl⟩ : ∃ d', d = d' + 1 := ⟨d - 1, by omega⟩
  refine q_cv0 (P := fun σ' => σ' = σ) (by decide +kernel) (Nat.le_of_ble_eq_true rfl) (fun Q hq => ?_) (fun σ' h => by rw [h]; exact hq)
  exact v_M_takeSign_0 hs (M_isSign_no hs hF ⟨hs, _, rfl, fun _ => M_wrong_no hs hF ⟨hs, rfl, hq _ rfl⟩, fun z => absurd rfl z⟩)
theorem M_takeSign_ok {c : Nat} (hd : 1 ≤ d) (hc : c < 128) (hw : WTp tp) (hM : IsM tp M) (hs : q_Sh σ) (hK : MK σ tp M i) (hq1 : isS (tk tp i) c = true → ∀ σ', Fr S78 noL σ σ' → MK σ' tp M (i + 1) → Q none σ') (hq0 : ¬ isS (tk tp i) c = true → ∀ σ', Fr S78 noL σ σ' → FX σ' (nI (flt tp 1 i)) → Q none σ') : q_Call G d 0 0 X_M_takeSign [.ref 159, .int (nI c)] σ Q := by
  obtain ⟨d, rfl⟩ : ∃ d', d = d' + 1 := ⟨d - 1, by omega⟩
  refine q_cv0 (P := fun σ' => Fr S78 noL σ σ' ∧ ((isS (tk tp i) c = true ∧ MK σ' tp M (i + 1)) ∨ (¬ isS (tk tp i) c = true ∧ FX σ' (nI (flt tp 1 i))))) (by decide +kernel) (Nat.le_of_ble_eq_true rfl) (fun Q hq => ?_) (fun σ' h => by
    rcases h.2 with z | z
    · exact hq1 z.1 σ' h.1 z.2
    · exact hq0 z.1 σ' h.1 z.2)
  refine v_M_takeSign_0 hs (M_isSign_ok hc hw hs hK ⟨hs, _, rfl, fun z => ?_, fun z => ?_⟩)
  · rw [i10] at z
    exact M_wrong_ok (k := 1) hs hK hw.1 (by decide) (by decide) (fun σ1 f1 x1 => ⟨f1.sh hs, rfl, hq _ ⟨f1, Or.inr ⟨z, x1⟩⟩⟩)
  · rw [i10, Decidable.not_not] at z
    refine hq _ ⟨Fr.setI ⟨rfl, Or.inl rfl⟩, Or.inl ⟨z, ?_⟩⟩
    rw [hK.2.1, nI_1]
    exact hK.at (tk_s hM hK.2.2.2.1 z)
theorem M_hasSign_no {c v : Int32} (hd : 1 ≤ d) (hs : q_Sh σ) (hF : FX σ v) (hq : Q (some (.int 0)) σ) : q_Call G d 0 0 X_M_hasSign [.ref 159, .int c] σ Q := by
  obtain ⟨d, rfl⟩ : ∃ d', d = d' + 1 := ⟨d - 1, by omega⟩
  refine q_ci (by decide +kernel) (Nat.le_of_ble_eq_true rfl) (fun Q hq => ?_) hq
  refine v_M_hasSign_0 hs (M_isSign_no hs hF ⟨hs, _, rfl, rfl, ?_⟩)
  rw [if_pos rfl, show q_I σ 159 7 + 0 = q_I σ 159 7 from Int32.add_zero _, q_setI_self]
  exact hq
theorem M_hasSign_ok {c : Nat} (hd : 1 ≤ d) (hc : c < 128) (hw : WTp tp) (hM : IsM tp M) (hs : q_Sh σ) (hK : MK σ tp M i) (hq1 : isS (tk tp i) c = true → ∀ σ', Fr S78 noL σ σ' → MK σ' tp M (i + 1) → Q (some (.int 1)) σ') (hq0 : ¬ isS (tk tp i) c = true → Q (some (.int 0)) σ) : q_Call G d 0 0 X_M_hasSign [.ref 159, .int (nI c)] σ Q := by
  obtain ⟨d, rfl⟩ : ∃ d', d = d' + 1 := ⟨d - 1, by omega⟩
  refine q_cii (Pp := fun v σ' => (isS (tk tp i) c = true ∧ v = 1 ∧ Fr S78 noL σ σ' ∧ MK σ' tp M (i + 1)) ∨ (¬ isS (tk tp i) c = true ∧ v = 0 ∧ σ' = σ)) (by decide +kernel) (Nat.le_of_ble_eq_true rfl) (fun Q hq => ?_) (fun v σ' h => by
    rcases h with z | z
    · rw [z.2.1]; exact hq1 z.1 σ' z.2.2.1 z.2.2.2
    · rw [z.2.1, z.2.2]; exact hq0 z.1)
  refine v_M_hasSign_0 hs (M_isSign_ok hc hw hs hK ⟨hs, _, rfl, q_nb01, ?_⟩)
  by_cases z : isS (tk tp i) c = true
  · rw [if_pos z, if_neg (by decide), hK.2.1, nI_1]
    exact hq _ _ (Or.inl ⟨z, rfl, Fr.setI ⟨rfl, Or.inl rfl⟩, hK.at (tk_s hM hK.2.2.2.1 z)⟩)
  · rw [if_neg z, if_pos rfl, show q_I σ 159 7 + 0 = q_I σ 159 7 from Int32.add_zero _, q_setI_self]
    exact hq _ _ (Or.inr ⟨z, rfl, rfl⟩)
theorem M_hasWord_no {c v : Int32} (hd : 1 ≤ d) (hs : q_Sh σ) (hF : FX σ v) (hq : Q (some (.int 0)) σ) : q_Call G d 0 0 X_M_hasWord [.ref 159, .int c] σ Q := by
  obtain ⟨d, rfl⟩ : ∃ d', d = d' + 1 := ⟨d - 1, by omega⟩
  refine q_ci (by decide +kernel) (Nat.le_of_ble_eq_true rfl) (fun Q hq => ?_) hq
  refine v_M_hasWord_0 hs (M_isWord_no hs hF ⟨hs, _, rfl, rfl, ?_⟩)
  rw [if_pos rfl, show q_I σ 159 7 + 0 = q_I σ 159 7 from Int32.add_zero _, q_setI_self]
  exact hq
theorem M_hasWord_ok {c : Nat} (hd : 1 ≤ d) (hc : c < 33) (hM : IsM tp M) (hs : q_Sh σ) (hK : MK σ tp M i) (hq1 : isW (tk tp i) c = true → ∀ σ', Fr S78 noL σ σ' → MK σ' tp M (i + 1) → Q (some (.int 1)) σ') (hq0 : ¬ isW (tk tp i) c = true → Q (some (.int 0)) σ) : q_Call G d 0 0 X_M_hasWord [.ref 159, .int (nI c)] σ Q := by
  obtain ⟨d, rfl⟩ : ∃ d', d = d' + 1 := ⟨d - 1, by omega⟩
  refine q_cii (Pp := fun v σ' => (isW (tk tp i) c = true ∧ v = 1 ∧ Fr S78 noL σ σ' ∧ MK σ' tp M (i + 1)) ∨ (¬ isW (tk tp i) c = true ∧ v = 0 ∧ σ' = σ)) (by decide +kernel) (Nat.le_of_ble_eq_true rfl) (fun Q hq => ?_) (fun v σ' h => by
    rcases h with z | z
    · rw [z.2.1]; exact hq1 z.1 σ' z.2.2.1 z.2.2.2
    · rw [z.2.1, z.2.2]; exact hq0 z.1)
  refine v_M_hasWord_0 hs (M_isWord_ok hc hs hK ⟨hs, _, rfl, q_nb01, ?_⟩)
  by_cases z : isW (tk tp i) c = true
  · rw [if_pos z, if_neg (by decide), hK.2.1, nI_1]
    exact hq _ _ (Or.inl ⟨z, rfl, Fr.setI ⟨rfl, Or.inl rfl⟩, hK.at (tk_w hM hK.2.2.2.1 z)⟩)
  · rw [if_neg z, if_pos rfl, show q_I σ 159 7 + 0 = q_I σ 159 7 from Int32.add_zero _, q_setI_self]
    exact hq _ _ (Or.inr ⟨z, rfl, rfl⟩)
theorem M_takeWord_no {c v : Int32} (hd : 2 ≤ d) (hs : q_Sh σ) (hF : FX σ v) (hq : Q none σ) : q_Call G d 0 0 X_M_takeWord [.ref 159, .int c] σ Q := by
  obtain ⟨d, rfl⟩ : ∃ d', d = d' + 1 := ⟨d - 1, by omega⟩
  refine q_cv0 (P := fun σ' => σ' = σ) (by decide +kernel) (Nat.le_of_ble_eq_true rfl) (fun Q hq => ?_) (fun σ' h => by rw [h]; exact hq)
  exact v_M_takeWord_0 hs (M_hasWord_no (by omega) hs hF ⟨hs, _, rfl, fun z => absurd rfl z, fun _ => M_wrong_no hs hF ⟨hs, rfl, hq _ rfl⟩⟩)
theorem M_takeWord_ok {c : Nat} (hd : 2 ≤ d) (hc : c < 33) (hw : WTp tp) (hM : IsM tp M) (hs : q_Sh σ) (hK : MK σ tp M i) (hq1 : isW (tk tp i) c = true → ∀ σ', Fr S78 noL σ σ' → MK σ' tp M (i + 1) → Q none σ') (hq0 : ¬ isW (tk tp i) c = true → ∀ σ', Fr S78 noL σ σ' → FX σ' (nI (flt tp 1 i)) → Q none σ') : q_Call G d 0 0 X_M_takeWord [.ref 159, .int (nI c)] σ Q := by
  obtain ⟨d, rfl⟩ : ∃ d', d = d' + 1 := ⟨d - 1, by omega⟩
  refine q_cv0 (P := fun σ' => Fr S78 noL σ σ' ∧ ((isW (tk tp i) c = true ∧ MK σ' tp M (i + 1)) ∨ (¬ isW (tk tp i) c = true ∧ FX σ' (nI (flt tp 1 i))))) (by decide +kernel) (Nat.le_of_ble_eq_true rfl) (fun Q hq => ?_) (fun σ' h => by
    rcases h.2 with z | z
    · exact hq1 z.1 σ' h.1 z.2
    · exact hq0 z.1 σ' h.1 z.2)
  refine v_M_takeWord_0 hs (M_hasWord_ok (by omega) hc hM hs hK (fun z σ1 f1 k1 => ⟨f1.sh hs, _, rfl, fun _ => hq _ ⟨f1, Or.inl ⟨z, k1⟩⟩, fun y => absurd y (by decide)⟩) (fun z => ⟨hs, _, rfl, fun y => absurd rfl y, fun _ => ?_⟩))
  exact M_wrong_ok (k := 1) hs hK hw.1 (by decide) (by decide) (fun σ1 f1 x1 => ⟨f1.sh hs, rfl, hq _ ⟨f1, Or.inr ⟨z, x1⟩⟩⟩)
theorem M_number_no {a b v : Int32} (hd : 1 ≤ d) (hs : q_Sh σ) (hF : FX σ v) (hq : Q (some (.int 0)) σ) : q_Call G d 0 0 X_M_takeNumber [.ref 159, .int a, .int b] σ Q := by
  obtain ⟨d, rfl⟩ : ∃ d', d = d' + 1 := ⟨d - 1, by omega⟩
  refine q_ci (by decide +kernel) (Nat.le_of_ble_eq_true rfl) (fun Q hq => ?_) hq
  exact v_M_takeNumber_0 hs ⟨fun _ => ⟨fun _ => ⟨fun z => absurd z hF.nle, fun _ => hq⟩, fun z => absurd z hF.n0⟩, fun z => absurd z hF.n0⟩
theorem M_number_ok {lo hi : Nat} (hd : 1 ≤ d) (hlo : lo < 2 ^ 31) (hhi : hi < 2 ^ 31) (hw : WTp tp) (hM : IsM tp M) (hs : q_Sh σ) (hK : MK σ tp M i) (hq1 : nmF (tk tp i) lo hi = 0 → ∀ σ', Fr S78 noL σ σ' → MK σ' tp M (i + 1) → Q (some (.int (nI (tk tp i).2.2.1))) σ') (hq0 : nmF (tk tp i) lo hi ≠ 0 → ∀ σ', Fr S78 noL σ σ' → FX σ' (nI (flt tp (nmF (tk tp i) lo hi) i)) → Q (some (.int 0)) σ') : q_Call G d 0 0 X_M_takeNumber [.ref 159, .int (nI lo), .int (nI hi)] σ Q := by
  obtain ⟨d, rfl⟩ : ∃ d', d = d' + 1 := ⟨d - 1, by omega⟩
  refine q_cii (Pp := fun v σ' => (nmF (tk tp i) lo hi = 0 ∧ v = nI (tk tp i).2.2.1 ∧ Fr S78 noL σ σ' ∧ MK σ' tp M (i + 1)) ∨ (nmF (tk tp i) lo hi ≠ 0 ∧ v = 0 ∧ Fr S78 noL σ σ' ∧ FX σ' (nI (flt tp (nmF (tk tp i) lo hi) i)))) (by decide +kernel) (Nat.le_of_ble_eq_true rfl) (fun Q hq => ?_) (fun v σ' h => by
    rcases h with z | z
    · rw [z.2.1]; exact hq1 z.1 σ' z.2.2.1 z.2.2.2
    · rw [z.2.1]; exact hq0 z.1 σ' z.2.2.1 z.2.2.2)
  have hb := hK.2.2.2
  obtain ⟨m1, m2, m3, m4⟩ := hK.me
  have h4 := tk_sort (tp := tp) i
  have e2 : (q_I σ 161 i = 2) ↔ (tk tp i).1 = 2 := by rw [m1]; exact nI_eq (b := 2) (by omega) (by decide)
  have h0 := hK.2.2.1
  -- a fault of the kind k is told
  have bad : ∀ k, k ≠ 0 → k ≤ 9 → nmF (tk tp i) lo hi = k → q_Call G d 0 0 X_M_wrong [.ref 159, .int (nI k)] σ (q_rv (fun σ16 => (((q_I σ16 159 8) ≤ 0 → (∃ k21, ((q_I (q_setI σ16 159 7 ((q_I σ16 159 7) + 1)) 159 7) - 1) = nI k21 ∧ k21 < 1002 ∧ Q (some (.int ((q_L (q_setI σ16 159 7 ((q_I σ16 159 7) + 1)) 163 k21).toInt32))) (q_setI σ16 159 7 ((q_I σ16 159 7) + 1)))) ∧ (¬ (q_I σ16 159 8) ≤ 0 → Q (some (.int 0)) σ16)))) := fun k h1 h2 h3 => M_wrong_ok hs hK hw.1 h1 h2 (fun σ1 f1 x1 => ⟨f1.sh hs, rfl, fun z => absurd z x1.nle, fun _ => hq _ _ (Or.inr ⟨by rw [h3]; exact h1, rfl, f1, by rw [h3]; exact x1⟩)⟩)
  refine v_M_takeNumber_0 hs ⟨fun z => absurd h0 z, fun _ => ⟨i, hK.2.1, by omega, fun c2 => ⟨fun z => absurd h0 z, fun _ => ⟨i, hK.2.1, by omega, fun c3 => ?_, fun c3 => ⟨i, hK.2.1, by omega, fun c4 => ⟨fun _ => ⟨i, ?_, by omega, ?_⟩, fun z => absurd (by rw [h0]; exact Int32.le_refl _) z⟩, fun c4 => ?_⟩⟩⟩, fun c2 => ?_⟩⟩
  · rw [e2] at c2
    have h9 := tkA_n (p := ps tp i) c2
    have h9 : (tk tp i).2.2.1 < 10000 := h9
    rw [lg_cmp_lt, m4 (Or.inl c2), nI_l hlo, pk_lLT (by omega) (by omega)] at c3
    exact bad 4 (by decide) (by decide) (by unfold nmF; rw [if_pos c2, if_pos c3])
  · rw [q_I_eq, hK.2.1, nI_1, nI_pred]
  · rw [e2] at c2
    have h9 := tkA_n (p := ps tp i) c2
    have h9 : (tk tp i).2.2.1 < 10000 := h9
    rw [lg_cmp_lt, m4 (Or.inl c2), nI_l hlo, pk_lLT (by omega) (by omega)] at c3
    rw [lg_cmp_le, m4 (Or.inl c2), nI_l hhi, pk_lLE (by omega) (by omega)] at c4
    rw [q_L_setI, m4 (Or.inl c2), lN_i, hK.nx]
    exact hq _ _ (Or.inl ⟨by unfold nmF; rw [if_pos c2, if_neg c3, if_neg (by omega)], rfl, Fr.setI ⟨rfl, Or.inl rfl⟩, hK.at (tk_up hM hK.2.2.2.1 (by rw [c2]; decide))⟩)
  · rw [e2] at c2
    have h9 := tkA_n (p := ps tp i) c2
    have h9 : (tk tp i).2.2.1 < 10000 := h9
    rw [lg_cmp_lt, m4 (Or.inl c2), nI_l hlo, pk_lLT (by omega) (by omega)] at c3
    rw [lg_cmp_le, m4 (Or.inl c2), nI_l hhi, pk_lLE (by omega) (by omega)] at c4
    exact bad 4 (by decide) (by decide) (by unfold nmF; rw [if_pos c2, if_neg c3, if_pos (by omega)])
  · rw [e2] at c2
    exact bad 1 (by decide) (by decide) (by unfold nmF; rw [if_neg c2])
theorem M_after_no {w a b v : Int32} (hd : 3 ≤ d) (hs : q_Sh σ) (hF : FX σ v) (hq : Q (some (.int 0)) σ) : q_Call G d 0 0 X_M_takeAfter [.ref 159, .int w, .int a, .int b] σ Q := by
  obtain ⟨d, rfl⟩ : ∃ d', d = d' + 1 := ⟨d - 1, by omega⟩
  refine q_ci (by decide +kernel) (Nat.le_of_ble_eq_true rfl) (fun Q hq => ?_) hq
  exact v_M_takeAfter_0 hs (M_takeWord_no (by omega) hs hF ⟨hs, rfl, M_number_no (by omega) hs hF ⟨hs, _, rfl, hq⟩⟩)
theorem M_after_ok {w hi : Nat} (hd : 3 ≤ d) (hw33 : w < 33) (hhi : hi < 2 ^ 31) (hw : WTp tp) (hM : IsM tp M) (hs : q_Sh σ) (hK : MK σ tp M i) (hq1 : (trF tp w hi i).1 = 0 → ∀ σ', Fr S78 noL σ σ' → MK σ' tp M (i + 2) → Q (some (.int (nI (tk tp (i + 1)).2.2.1))) σ') (hq0 : (trF tp w hi i).1 ≠ 0 → ∀ σ', Fr S78 noL σ σ' → FX σ' (nI (flt tp (trF tp w hi i).1 (trF tp w hi i).2)) → Q (some (.int 0)) σ') : q_Call G d 0 0 X_M_takeAfter [.ref 159, .int (nI w), .int 0, .int (nI hi)] σ Q := by
  obtain ⟨d, rfl⟩ : ∃ d', d = d' + 1 := ⟨d - 1, by omega⟩
  refine q_cii (Pp := fun v σ' => ((trF tp w hi i).1 = 0 ∧ v = nI (tk tp (i + 1)).2.2.1 ∧ Fr S78 noL σ σ' ∧ MK σ' tp M (i + 2)) ∨ ((trF tp w hi i).1 ≠ 0 ∧ v = 0 ∧ Fr S78 noL σ σ' ∧ FX σ' (nI (flt tp (trF tp w hi i).1 (trF tp w hi i).2)))) (by decide +kernel) (Nat.le_of_ble_eq_true rfl) (fun Q hq => ?_) (fun v σ' h => by
    rcases h with z | z
    · rw [z.2.1]; exact hq1 z.1 σ' z.2.2.1 z.2.2.2
    · rw [z.2.1]; exact hq0 z.1 σ' z.2.2.1 z.2.2.2)
  refine v_M_takeAfter_0 hs (M_takeWord_ok (by omega) hw33 hw hM hs hK (fun z σ1 f1 k1 => ⟨f1.sh hs, rfl, ?_⟩) (fun z σ1 f1 x1 => ⟨f1.sh hs, rfl, M_number_no (by omega) (f1.sh hs) x1 ⟨f1.sh hs, _, rfl, hq _ _ (Or.inr ?_)⟩⟩))
  · have hs1 := f1.sh hs
    refine M_number_ok (lo := 0) (by omega) (by decide) hhi hw hM hs1 k1 (fun y σ2 f2 k2 => ⟨f2.sh hs1, _, rfl, hq _ _ (Or.inl ⟨?_, rfl, f1.tr f2, k2⟩)⟩) (fun y σ2 f2 x2 => ⟨f2.sh hs1, _, rfl, hq _ _ (Or.inr ?_)⟩)
    · unfold trF; rw [if_pos z, if_pos y]
    · have e : trF tp w hi i = (nmF (tk tp (i + 1)) 0 hi, i + 1) := by unfold trF; rw [if_pos z, if_neg y]
      rw [e]
      exact ⟨y, rfl, f1.tr f2, x2⟩
  · have e : trF tp w hi i = (1, i) := by unfold trF; rw [if_neg z]
    rw [e]
    exact ⟨(by decide : (1 : Nat) ≠ 0), rfl, f1, x1⟩
theorem M_wordHere_no {a v : Int32} {m : Nat} (hd : 1 ≤ d) (hm : m < 2 ^ 31) (hs : q_Sh σ) (hF : FX σ v) (hq : Q (some (.int (-1))) σ) : q_Call G d 0 0 X_M_wordHere [.ref 159, .int a, .int (nI m)] σ Q := by
  obtain ⟨d, rfl⟩ : ∃ d', d = d' + 1 := ⟨d - 1, by omega⟩
  refine q_ci (by decide +kernel) (Nat.le_of_ble_eq_true rfl) (fun Q hq => ?_) hq
  refine v_M_wordHere_0 hs ?_
  refine up_ind (R := fun k => q_At G X_M_wordHere (d + 1) 0 0 5 [some (.ref 159), some (.int a), some (.int (nI m)), some (.int (-1)), some (.int (nI k))] [] σ Q) (n := m) (v_M_wordHere_5 hs ⟨fun _ => hq, fun c => absurd (Int32.le_refl _) c⟩) (fun k hk ih => v_M_wordHere_5 hs ⟨fun c => ge_not c hk hm, fun _ => M_isWord_no hs hF ⟨hs, _, rfl, ?_⟩⟩) 0 (Nat.zero_le _)
  dsimp only
  rw [if_pos rfl, nI_1]
  exact ih
theorem M_wordHere_ok {f m : Nat} (hd : 1 ≤ d) (hf : f + m ≤ 33) (hs : q_Sh σ) (hK : MK σ tp M i) (hq : Q (some (.int (whT (tk tp i) f m))) σ) : q_Call G d 0 0 X_M_wordHere [.ref 159, .int (nI f), .int (nI m)] σ Q := by
  obtain ⟨d, rfl⟩ : ∃ d', d = d' + 1 := ⟨d - 1, by omega⟩
  refine q_ci (by decide +kernel) (Nat.le_of_ble_eq_true rfl) (fun Q hq => ?_) hq
  refine v_M_wordHere_0 hs ?_
  have e0 : whT (tk tp i) f 0 = -1 := whT_0 (by omega)
  rw [← e0]
  refine up_ind (R := fun k => q_At G X_M_wordHere (d + 1) 0 0 5 [some (.ref 159), some (.int (nI f)), some (.int (nI m)), some (.int (whT (tk tp i) f k)), some (.int (nI k))] [] σ Q) (n := m) (v_M_wordHere_5 hs ⟨fun _ => hq, fun c => absurd (Int32.le_refl _) c⟩) (fun k hk ih => v_M_wordHere_5 hs ⟨fun c => ge_not c hk (by omega), fun _ => ?_⟩) 0 (Nat.zero_le _)
  rw [nI_add]
  refine M_isWord_ok (by omega) hs hK ⟨hs, _, rfl, ?_⟩
  rw [nI_1]
  have e : (if (if isW (tk tp i) (f + k) = true then (1 : Int32) else 0) = 0 then whT (tk tp i) f k else nI k) = whT (tk tp i) f (k + 1) := by
    by_cases c : isW (tk tp i) (f + k) = true
    · have c2 := isW_t.mp c
      rw [if_pos c, if_neg (by decide), whT_1 (by omega), c2.2]
      congr 1
      omega
    · rw [if_neg c, if_pos rfl]
      by_cases c2 : (tk tp i).1 = 1 ∧ f ≤ (tk tp i).2.2.1 ∧ (tk tp i).2.2.1 < f + k
      · rw [whT_1 c2, whT_1 (by omega)]
      · have c3 : ¬ ((tk tp i).1 = 1 ∧ f ≤ (tk tp i).2.2.1 ∧ (tk tp i).2.2.1 < f + (k + 1)) := by
          intro z
          refine c (isW_t.mpr ⟨z.1, ?_⟩)
          omega
        rw [whT_0 c2, whT_0 c3]
  dsimp only
  rw [e]
  exact ih
theorem wh_neg {T : q_tk} {f m : Nat} (hm : f + m ≤ 33) : (whT T f m < 0) ↔ ¬ (T.1 = 1 ∧ f ≤ T.2.2.1 ∧ T.2.2.1 < f + m) := by
  by_cases c : T.1 = 1 ∧ f ≤ T.2.2.1 ∧ T.2.2.1 < f + m
  · rw [whT_1 c]
    exact ⟨fun z => absurd z (nI_pos (by omega)), fun z => absurd c z⟩
  · rw [whT_0 c]
    exact ⟨fun _ => c, fun _ => by decide⟩
theorem wh_ge {T : q_tk} {f m : Nat} (hm : f + m ≤ 33) : (0 ≤ whT T f m) ↔ (T.1 = 1 ∧ f ≤ T.2.2.1 ∧ T.2.2.1 < f + m) := by
  by_cases c : T.1 = 1 ∧ f ≤ T.2.2.1 ∧ T.2.2.1 < f + m
  · rw [whT_1 c]
    exact ⟨fun _ => c, fun _ => nI_pos' (by omega)⟩
  · rw [whT_0 c]
    exact ⟨fun z => absurd z (by decide), fun z => absurd z c⟩
theorem M_takeOne_no {a v : Int32} {m : Nat} (hd : 2 ≤ d) (hm : m < 2 ^ 31) (hs : q_Sh σ) (hF : FX σ v) (hq : Q (some (.int 0)) σ) : q_Call G d 0 0 X_M_takeOne [.ref 159, .int a, .int (nI m)] σ Q := by
  obtain ⟨d, rfl⟩ : ∃ d', d = d' + 1 := ⟨d - 1, by omega⟩
  refine q_ci (by decide +kernel) (Nat.le_of_ble_eq_true rfl) (fun Q hq => ?_) hq
  refine v_M_takeOne_0 hs ⟨fun z => absurd z hF.nle, fun _ => ⟨fun _ => ?_, fun z => absurd z hF.n0⟩⟩
  rw [if_neg hF.nle, show q_I σ 159 7 + 0 = q_I σ 159 7 from Int32.add_zero _, q_setI_self, if_neg hF.nle]
  exact hq
theorem M_kind_ok (hd : 2 ≤ d) (hw : WTp tp) (hM : IsM tp M) (hs : q_Sh σ) (hK : MK σ tp M i) (hq1 : ¬ kdT (tk tp i) = -1 → ∀ σ', Fr S78 noL σ σ' → MK σ' tp M (i + 1) → Q (some (.int (nI ((tk tp i).2.2.1 - 18)))) σ') (hq0 : kdT (tk tp i) = -1 → ∀ σ', Fr S78 noL σ σ' → FX σ' (nI (flt tp 1 i)) → Q (some (.int 0)) σ') : q_Call G d 0 0 X_M_takeOne [.ref 159, .int 18, .int 4] σ Q := by
  obtain ⟨d, rfl⟩ : ∃ d', d = d' + 1 := ⟨d - 1, by omega⟩
  refine q_cii (Pp := fun v σ' => (¬ kdT (tk tp i) = -1 ∧ v = nI ((tk tp i).2.2.1 - 18) ∧ Fr S78 noL σ σ' ∧ MK σ' tp M (i + 1)) ∨ (kdT (tk tp i) = -1 ∧ v = 0 ∧ Fr S78 noL σ σ' ∧ FX σ' (nI (flt tp 1 i)))) (by decide +kernel) (Nat.le_of_ble_eq_true rfl) (fun Q hq => ?_) (fun v σ' h => by
    rcases h with z | z
    · rw [z.2.1]; exact hq1 z.1 σ' z.2.2.1 z.2.2.2
    · rw [z.2.1]; exact hq0 z.1 σ' z.2.2.1 z.2.2.2)
  have h0 := hK.2.2.1
  have l0 : q_I σ 159 8 ≤ 0 := by rw [h0]; exact Int32.le_refl _
  refine v_M_takeOne_0 hs ⟨fun _ => M_wordHere_ok (f := 18) (m := 4) (by omega) (by decide) hs hK ⟨hs, _, rfl, fun z => absurd h0 z, fun _ => ⟨fun c => ?_, fun c => ?_⟩⟩, fun z => absurd l0 z⟩
  · have c := (wh_ge (by decide)).mp c
    have k1 : kdT (tk tp i) = nI ((tk tp i).2.2.1 - 18) := by unfold kdT; rw [if_pos (by omega)]
    rw [if_pos l0, hK.2.1, nI_1, q_I_ne (by decide), if_pos l0, whT_1 c]
    exact hq _ _ (Or.inl ⟨by rw [k1]; exact nm1 _ (by omega), rfl, Fr.setI ⟨rfl, Or.inl rfl⟩, hK.at (tk_up hM hK.2.2.2.1 (by rw [c.1]; decide))⟩)
  · have c : ¬ _ := fun z => c ((wh_ge (by decide)).mpr z)
    have k1 : kdT (tk tp i) = -1 := by unfold kdT; rw [if_neg (by omega)]
    refine M_wrong_ok (k := 1) hs hK hw.1 (by decide) (by decide) (fun σ1 f1 x1 => ⟨f1.sh hs, rfl, ?_⟩)
    dsimp only
    rw [if_neg x1.nle, show q_I σ1 159 7 + 0 = q_I σ1 159 7 from Int32.add_zero _, q_setI_self, if_neg x1.nle]
    exact hq _ _ (Or.inr ⟨k1, rfl, f1, x1⟩)
theorem M_isName_no {v : Int32} (hd : 1 ≤ d) (hs : q_Sh σ) (hF : FX σ v) (hq : Q (some (.int 0)) σ) : q_Call G d 0 0 X_M_isName [.ref 159] σ Q := by
  obtain ⟨d, rfl⟩ : ∃ d', d = d' + 1 := ⟨d - 1, by omega⟩
  refine q_ci (by decide +kernel) (Nat.le_of_ble_eq_true rfl) (fun Q hq => ?_) hq
  exact v_M_isName_0 hs ⟨fun _ => hq, fun z => absurd z hF.n0⟩
theorem M_isName_ok (hd : 2 ≤ d) (hs : q_Sh σ) (hK : MK σ tp M i) (hq : Q (some (.int (if isNm (tk tp i) = true then 1 else 0))) σ) : q_Call G d 0 0 X_M_isName [.ref 159] σ Q := by
  obtain ⟨d, rfl⟩ : ∃ d', d = d' + 1 := ⟨d - 1, by omega⟩
  refine q_ci (by decide +kernel) (Nat.le_of_ble_eq_true rfl) (fun Q hq => ?_) hq
  have := hK.2.2.2
  have h4 := tk_sort (tp := tp) i
  have e3 : (q_I σ 161 i = 1) ↔ (tk tp i).1 = 1 := by rw [hK.me.1]; exact nI_eq (b := 1) (by omega) (by decide)
  refine v_M_isName_0 hs ⟨fun c => absurd hK.2.2.1 c, fun _ => ⟨i, hK.2.1, by omega, fun c3 => ?_, fun c3 => ?_⟩⟩
  · rw [e3] at c3
    rw [if_neg (fun z => c3 (isNm_t.mp z).1)] at hq
    exact hq
  · rw [e3] at c3
    refine M_wordHere_ok (f := 0) (m := 25) (by omega) (by decide) hs hK ⟨hs, _, rfl, ?_⟩
    have e : (if 0 ≤ whT (tk tp i) 0 25 then (0 : Int32) else 1) = if isNm (tk tp i) = true then 1 else 0 := by
      by_cases c : isNm (tk tp i) = true
      · have c2 := isNm_t.mp c
        rw [if_pos c, if_neg (fun z => by have := (wh_ge (by decide)).mp z; omega)]
      · have c2 : ¬ (25 ≤ (tk tp i).2.2.1) := fun z => c (isNm_t.mpr ⟨c3, z⟩)
        rw [if_neg c, if_pos ((wh_ge (by decide)).mpr ⟨c3, Nat.zero_le _, by omega⟩)]
    dsimp only
    rw [e]
    exact ⟨q_nb01, hq⟩
end MTOK
