-- the tokens that the class looks at
def Fk (SI SL : Nat → Nat → Prop) (σ σ' : q_S) : Prop := q_n σ' = q_n σ ∧ (∀ a i, ¬ (a = 3 ∧ i = 4) → q_R σ' a i = q_R σ a i) ∧ (∀ a i, ¬ SI a i → q_I σ' a i = q_I σ a i) ∧ (∀ a i, ¬ SL a i → q_L σ' a i = q_L σ a i)
theorem Fk.rf {SI SL : Nat → Nat → Prop} {σ : q_S} : Fk SI SL σ σ := ⟨rfl, fun _ _ _ => rfl, fun _ _ _ => rfl, fun _ _ _ => rfl⟩
theorem Fk.tr {SI SL : Nat → Nat → Prop} {σ σ1 σ2 : q_S} (h1 : Fk SI SL σ σ1) (h2 : Fk SI SL σ1 σ2) : Fk SI SL σ σ2 := ⟨h2.1.trans h1.1, fun a i h => (h2.2.1 a i h).trans (h1.2.1 a i h), fun a i h => (h2.2.2.1 a i h).trans (h1.2.2.1 a i h), fun a i h => (h2.2.2.2 a i h).trans (h1.2.2.2 a i h)⟩
theorem Fk.mono {SI SL SI' SL' : Nat → Nat → Prop} {σ σ' : q_S} (h : Fk SI SL σ σ') (hI : ∀ a i, SI a i → SI' a i) (hL : ∀ a i, SL a i → SL' a i) : Fk SI' SL' σ σ' := ⟨h.1, h.2.1, fun a i q => h.2.2.1 a i (fun z => q (hI a i z)), fun a i q => h.2.2.2 a i (fun z => q (hL a i z))⟩
theorem q_R_at {σ : q_S} {a i : Nat} {v : Option Nat} : q_R (q_setR σ a i v) a i = v := if_pos ⟨rfl, rfl⟩
theorem frz_34 : ∀ x ∈ q_frz, ¬ (x.1 = 3 ∧ x.2.1 = 4) := by decide +kernel
theorem Fk.sh {SI SL : Nat → Nat → Prop} {σ σ' : q_S} (h : Fk SI SL σ σ') (hs : q_Sh σ) : q_Sh σ' := ⟨h.1.trans hs.1, fun x hx => by rw [h.2.1 _ _ (frz_34 x hx)]; exact hs.2 x hx⟩
theorem Fr.k {SI SL : Nat → Nat → Prop} {σ σ' : q_S} (h : Fr SI SL σ σ') : Fk SI SL σ σ' := ⟨h.1, fun _ _ _ => by rw [h.2.1], h.2.2.1, h.2.2.2⟩
theorem Fk.setR {SI SL : Nat → Nat → Prop} {σ : q_S} {v : Option Nat} : Fk SI SL σ (q_setR σ 3 4 v) := ⟨rfl, fun a i h => by show (if a = 3 ∧ i = 4 then v else q_R σ a i) = _; rw [if_neg h], fun _ _ _ => rfl, fun _ _ _ => rfl⟩
def SKa : Nat → Nat → Prop := fun a i => a = 3 ∧ i < 8
def SKl : Nat → Nat → Prop := fun a i => a = 3 ∧ i = 5
def TKr (σ : q_S) (T : q_tk × Nat) : Prop := q_I σ 3 1 = nI T.1.1 ∧ q_I σ 3 2 = nI T.1.2.1 ∧ q_I σ 3 3 = nI T.2 ∧ (T.1.1 = 1 → q_L σ 3 5 = lN (e32 T.1.2.2.2) ∧ q_R σ 3 4 = some (1001 + T.1.2.2.1)) ∧ (T.1.1 = 2 → q_I σ 3 6 = nI T.1.2.2.1) ∧ (T.1.1 = 3 → q_I σ 3 7 = nI T.1.2.2.1)
theorem CTp.at {σ : q_S} {tp : List Nat} {p : Nat} (h : CTp σ tp) (hp : p < tp.length) : q_I σ 2 p = nI (tp.getD p 0) := by
  refine h.2 p _ ?_
  rw [List.getD_eq_getElem?_getD, List.getElem?_eq_getElem hp]
  rfl
theorem WTp.at {tp : List Nat} {p : Nat} (h : WTp tp) (hp : p < tp.length) : tp.getD p 0 < 127 := by
  have : tp.getD p 0 ∈ tp := by
    rw [List.getD_eq_getElem?_getD, List.getElem?_eq_getElem hp]
    exact List.getElem_mem hp
  have := h.2 _ this
  omega
theorem CTp.k {SI SL : Nat → Nat → Prop} {σ σ' : q_S} {tp : List Nat} (h : CTp σ tp) (hf : Fk SI SL σ σ') (hI : ∀ a i, SI a i → ¬ (a = 2 ∨ (a = 1 ∧ i = 1))) : CTp σ' tp := ⟨by rw [hf.2.2.1 _ _ (fun z => hI _ _ z (Or.inr ⟨rfl, rfl⟩))]; exact h.1, fun i x hx => by rw [hf.2.2.1 _ _ (fun z => hI _ _ z (Or.inl rfl))]; exact h.2 i x hx⟩
theorem SKa_t {a i : Nat} (h : SKa a i) : ¬ (a = 2 ∨ (a = 1 ∧ i = 1)) := by unfold SKa at h; omega
theorem ixs_sg : ∀ c, c < 128 → ((q_ixs (nI c) < 0) ↔ isSg c = false) := by decide +kernel
theorem isLe_t {c : Nat} : isLe c = true ↔ 97 ≤ c ∧ c ≤ 122 := by unfold isLe; rw [decide_eq_true_eq]
theorem isDg_t {c : Nat} : isDg c = true ↔ 48 ≤ c ∧ c ≤ 57 := by unfold isDg; rw [decide_eq_true_eq]
theorem isBl_t {c : Nat} : isBl c = true ↔ c = 32 ∨ c = 10 := by unfold isBl; rw [decide_eq_true_eq]
section CTOK
variable {G : q_G} {d : Nat} {σ : q_S} {Q : Option Value → q_S → Prop} {tp : List Nat} {p : Nat}
theorem Tk_word_ok (hs : q_Sh σ) (hw : WTp tp) (hT : CTp σ tp) (h1 : p < tp.length) (h2 : isLe (tp.getD p 0) = true) (h3 : q_I σ 3 2 = nI p) (h4 : q_I σ 3 3 = nI p) (hq : ∀ σ', Fk SKa SKl σ σ' → TKr σ' (tkA tp p) → Q none σ') : q_Call G d 0 0 X_Tk_readWord [.ref 3] σ Q := by
  have hl := hw.1
  refine q_cv0 (P := fun σ' => Fk SKa SKl σ σ' ∧ TKr σ' (tkA tp p)) (by decide +kernel) (Nat.le_of_ble_eq_true rfl) (fun Q hq => ?_) (fun σ' h => hq σ' h.1 h.2)
  have eA : tkA tp p = ((if rn isLe tp p - p ≤ 8 then 1 else 4, p, wix (ltr tp p (rn isLe tp p - p)), ltr tp p (rn isLe tp p - p)), rn isLe tp p) := by unfold tkA; rw [if_pos h1, if_pos h2]
  have hE : rn isLe tp p ≤ tp.length := rn_le (by omega)
  have hEp : p < rn isLe tp p := by rw [rn_step h1 h2]; exact rn_ge _ _ _
  -- behind the letters
  have fin : ∀ q σ1, q = rn isLe tp p → Fk SKa SKl σ σ1 → q_I σ1 3 2 = nI p → q_I σ1 3 3 = nI q → q_L σ1 3 5 = lN (e32 (ltr tp p (q - p))) → q_At G X_Tk_readWord d 0 0 129 [some (.ref 3), some (.int 0)] [] (q_setR (q_setI σ1 3 1 (if 8 < ((q_I σ1 3 3) - (q_I σ1 3 2)) then (4 : Int32) else (1 : Int32))) 3 4 (some (1001 + 33))) Q := by
    intro q σ1 eq f1 g2 g3 g5
    subst eq
    rw [g2, g3, pk_sub (by omega)]
    have e8 : (8 < nI (rn isLe tp p - p)) ↔ 8 < rn isLe tp p - p := nI_ltI (a := 8) (by decide) (by omega)
    simp only [e8]
    refine up_ind (R := fun k => ∀ σ3, Fk noL noL (q_setI σ1 3 1 (if 8 < rn isLe tp p - p then (4 : Int32) else (1 : Int32))) σ3 → (rn isLe tp p - p ≤ 8 → q_R σ3 3 4 = some (1001 + wfi (ltr tp p (rn isLe tp p - p)) (if k ≤ 33 then k else 33))) → q_At G X_Tk_readWord d 0 0 129 [some (.ref 3), some (.int (nI k))] [] σ3 Q) (n := 34) (fun σ3 f3 r3 => ?_) (fun k hk ih σ3 f3 r3 => ?_) 0 (Nat.zero_le _) _ Fk.setR (fun _ => by rw [q_R_at]; rfl)
    · have f4 : Fk SKa SKl σ σ3 := (f1.tr (Fr.setI ⟨rfl, by decide⟩).k).tr (f3.mono (fun _ _ z => z.elim) (fun _ _ z => z.elim))
      refine v_Tk_readWord_129 (f4.sh hs) ⟨fun _ => hq _ ⟨f4, ?_⟩, fun c => absurd (Int32.le_refl _) c⟩
      rw [eA]
      refine ⟨?_, ?_, ?_, fun s => ⟨?_, ?_⟩, fun s => ?_, fun s => ?_⟩
      · rw [f3.2.2.1 _ _ (fun z => z), q_I_eq]
        show _ = nI (if rn isLe tp p - p ≤ 8 then 1 else 4)
        by_cases c : rn isLe tp p - p ≤ 8
        · rw [if_pos c, if_neg (by omega)]; rfl
        · rw [if_neg c, if_pos (by omega)]; rfl
      · rw [f3.2.2.1 _ _ (fun z => z), q_I_ne (by decide)]; exact g2
      · rw [f3.2.2.1 _ _ (fun z => z), q_I_ne (by decide)]; exact g3
      · rw [f3.2.2.2 _ _ (fun z => z)]; exact g5
      · refine r3 ?_
        refine Classical.byContradiction (fun z => ?_)
        have s : (if rn isLe tp p - p ≤ 8 then 1 else 4) = 1 := s
        rw [if_neg z] at s
        exact absurd s (by decide)
      · have s : (if rn isLe tp p - p ≤ 8 then 1 else 4) = 2 := s
        split at s <;> exact absurd s (by decide)
      · have s : (if rn isLe tp p - p ≤ 8 then 1 else 4) = 3 := s
        split at s <;> exact absurd s (by decide)
    · have f4 : Fk SKa SKl σ σ3 := (f1.tr (Fr.setI ⟨rfl, by decide⟩).k).tr (f3.mono (fun _ _ z => z.elim) (fun _ _ z => z.elim))
      have eL : q_L σ3 3 5 = lN (e32 (ltr tp p (rn isLe tp p - p))) := by rw [f3.2.2.2 _ _ (fun z => z)]; exact g5
      have ok : rn isLe tp p - p ≤ 8 → okL (ltr tp p (rn isLe tp p - p)) := fun h8 => ⟨by rw [ltr_len]; exact h8, ltr_mem _ (fun j hj => rn_in (p := p) (by omega) (by omega))⟩
      have ne : ltr tp p (rn isLe tp p - p) ≠ [] := fun z => by
        have z := congrArg List.length z
        rw [ltr_len] at z
        have z : rn isLe tp p - p = 0 := z
        omega
      refine v_Tk_readWord_129 (f4.sh hs) ⟨fun c => ge_not c hk (by decide), fun _ => ⟨k, rfl, hk, fun c => ?_, fun c => ⟨k, rfl, hk, ?_⟩⟩⟩
      · rw [nI_1]
        refine ih σ3 f3 (fun h8 => ?_)
        rw [r3 h8]
        by_cases k33 : k < 33
        · rw [if_pos (by omega), if_pos (by omega), wfi, if_neg]
          intro z
          rw [cmp_eq, wls_32 k k33, z, eL] at c
          exact c rfl
        · rw [if_pos (by omega), if_neg (by omega), show k = 33 by omega]
      · rw [nI_1]
        refine ih _ (f3.tr Fk.setR) (fun h8 => ?_)
        rw [q_R_at]
        rw [cmp_eq, eL] at c
        by_cases k33 : k < 33
        · rw [wls_32 k k33, e32_eq (wls_okL k33) (ok h8)] at c
          rw [if_pos (by omega), wfi, if_pos c]
        · rw [show k = 33 by omega] at c
          exact absurd c (e32_0 (ok h8) ne)
  have lp : ∀ n q σ1, tp.length - q = n → p ≤ q → q ≤ tp.length → rn isLe tp q = rn isLe tp p → Fk SKa SKl σ σ1 → q_I σ1 3 2 = nI p → q_I σ1 3 3 = nI q → q_L σ1 3 5 = lN (e32 (ltr tp p (q - p))) → q_At G X_Tk_readWord d 0 0 5 [some (.ref 3), none] [] σ1 Q := by
    intro n
    induction n with
    | zero =>
      intro q σ1 hn hp hql hr f1 g2 g3 g5
      have hT1 := hT.k f1 (fun a i z => SKa_t z)
      have e : q = rn isLe tp p := by rw [← hr, rn_stop (by omega)]
      refine v_Tk_readWord_5 (f1.sh hs) ⟨fun _ => fin q σ1 e f1 g2 g3 g5, fun c => absurd ?_ c⟩
      rw [hT1.1, g3]
      exact nI_le (by omega) (by omega)
    | succ n ih =>
      intro q σ1 hn hp hql hr f1 g2 g3 g5
      have hT1 := hT.k f1 (fun a i z => SKa_t z)
      have hc := hw.at (show q < tp.length by omega)
      have e2 := hT1.at (show q < tp.length by omega)
      refine v_Tk_readWord_5 (f1.sh hs) ⟨fun c => by rw [hT1.1, g3] at c; exact ge_not c (by omega) (by omega), fun _ => ⟨q, g3, by omega, fun c => ?_, fun c => ⟨q, g3, by omega, fun c2 => ?_, fun c2 => ⟨q, g3, by omega, ?_⟩⟩⟩⟩
      · rw [e2, show (97 : Int32) = nI 97 from rfl, nI_ltI (by omega) (by decide)] at c
        refine fin q σ1 ?_ f1 g2 g3 g5
        rw [← hr, rn_stop]
        rintro ⟨_, z⟩
        rw [isLe_t] at z
        omega
      · rw [e2, show (122 : Int32) = nI 122 from rfl, nI_ltI (by decide) (by omega)] at c2
        refine fin q σ1 ?_ f1 g2 g3 g5
        rw [← hr, rn_stop]
        rintro ⟨_, z⟩
        rw [isLe_t] at z
        omega
      · rw [e2, show (97 : Int32) = nI 97 from rfl, nI_ltI (by omega) (by decide)] at c
        rw [e2, show (122 : Int32) = nI 122 from rfl, nI_ltI (by decide) (by omega)] at c2
        have le : isLe (tp.getD q 0) = true := by rw [isLe_t]; omega
        refine ih (q + 1) _ (by omega) (by omega) (by omega) (by rw [← hr, rn_step (by omega) le]) ((f1.tr (Fr.setL ⟨rfl, rfl⟩).k).tr (Fr.setI ⟨rfl, by decide⟩).k) (by rw [q_I_ne (by decide)]; exact g2) ?_ ?_
        · rw [q_I_eq, q_I_setL, g3, nI_1]
        · rw [q_L_setI, q_L_eq, g5, e2, show (97 : Int32) = nI 97 from rfl, pk_sub (by omega), nI_1, nI_l (by omega), q_litL 32, lN_mul, lN_add, show q + 1 - p = (q - p) + 1 by omega, ltr, e32_s, show p + (q - p) = q by omega]
          congr 2
          omega
  refine v_Tk_readWord_0 hs (lp _ p _ rfl (Nat.le_refl _) (by omega) rfl (Fr.setL ⟨rfl, rfl⟩).k h3 h4 ?_)
  rw [q_L_eq, Nat.sub_self]
  rfl
theorem Tk_number_ok (hs : q_Sh σ) (hw : WTp tp) (hT : CTp σ tp) (h1 : p < tp.length) (h0 : ¬ isLe (tp.getD p 0) = true) (h2 : isDg (tp.getD p 0) = true) (h3 : q_I σ 3 2 = nI p) (h4 : q_I σ 3 3 = nI p) (hq : ∀ σ', Fk SKa SKl σ σ' → TKr σ' (tkA tp p) → Q none σ') : q_Call G d 0 0 X_Tk_readNumber [.ref 3] σ Q := by
  have hl := hw.1
  refine q_cv0 (P := fun σ' => Fk SKa SKl σ σ' ∧ TKr σ' (tkA tp p)) (by decide +kernel) (Nat.le_of_ble_eq_true rfl) (fun Q hq => ?_) (fun σ' h => hq σ' h.1 h.2)
  have eA : tkA tp p = ((if rn isDg tp p - p ≤ 4 then 2 else 4, p, dgs tp p (rn isDg tp p - p), []), rn isDg tp p) := by unfold tkA; rw [if_pos h1, if_neg h0, if_pos h2]
  have hE : rn isDg tp p ≤ tp.length := rn_le (by omega)
  have hEp : p < rn isDg tp p := by rw [rn_step h1 h2]; exact rn_ge _ _ _
  have fin : ∀ q σ1, q = rn isDg tp p → Fk SKa SKl σ σ1 → q_I σ1 3 2 = nI p → q_I σ1 3 3 = nI q → q_I σ1 3 6 = nI (dgs tp p (q - p)) → Q none (q_setI σ1 3 1 (if 4 < ((q_I σ1 3 3) - (q_I σ1 3 2)) then (4 : Int32) else (2 : Int32))) := by
    intro q σ1 eq f1 g2 g3 g5
    subst eq
    rw [g2, g3, pk_sub (by omega)]
    have e8 : (4 < nI (rn isDg tp p - p)) ↔ 4 < rn isDg tp p - p := nI_ltI (a := 4) (by decide) (by omega)
    simp only [e8]
    refine hq _ ⟨f1.tr (Fr.setI ⟨rfl, by decide⟩).k, ?_⟩
    rw [eA]
    refine ⟨?_, ?_, ?_, fun s => ?_, fun s => ?_, fun s => ?_⟩
    · rw [q_I_eq]
      show _ = nI (if rn isDg tp p - p ≤ 4 then 2 else 4)
      by_cases c : rn isDg tp p - p ≤ 4
      · rw [if_pos c, if_neg (by omega)]; rfl
      · rw [if_neg c, if_pos (by omega)]; rfl
    · rw [q_I_ne (by decide)]; exact g2
    · rw [q_I_ne (by decide)]; exact g3
    · have s : (if rn isDg tp p - p ≤ 4 then 2 else 4) = 1 := s
      split at s <;> exact absurd s (by decide)
    · rw [q_I_ne (by decide)]; exact g5
    · have s : (if rn isDg tp p - p ≤ 4 then 2 else 4) = 3 := s
      split at s <;> exact absurd s (by decide)
  have lp : ∀ n q σ1, tp.length - q = n → p ≤ q → q ≤ tp.length → rn isDg tp q = rn isDg tp p → Fk SKa SKl σ σ1 → q_I σ1 3 2 = nI p → q_I σ1 3 3 = nI q → q_I σ1 3 6 = nI (dgs tp p (q - p)) → q_At G X_Tk_readNumber d 0 0 5 [some (.ref 3)] [] σ1 Q := by
    intro n
    induction n with
    | zero =>
      intro q σ1 hn hp hql hr f1 g2 g3 g5
      have hT1 := hT.k f1 (fun a i z => SKa_t z)
      have e : q = rn isDg tp p := by rw [← hr, rn_stop (by omega)]
      refine v_Tk_readNumber_5 (f1.sh hs) ⟨fun _ => fin q σ1 e f1 g2 g3 g5, fun c => absurd ?_ c⟩
      rw [hT1.1, g3]
      exact nI_le (by omega) (by omega)
    | succ n ih =>
      intro q σ1 hn hp hql hr f1 g2 g3 g5
      have hT1 := hT.k f1 (fun a i z => SKa_t z)
      have hc := hw.at (show q < tp.length by omega)
      have e2 := hT1.at (show q < tp.length by omega)
      refine v_Tk_readNumber_5 (f1.sh hs) ⟨fun c => by rw [hT1.1, g3] at c; exact ge_not c (by omega) (by omega), fun _ => ⟨q, g3, by omega, fun c => ?_, fun c => ⟨q, g3, by omega, fun c2 => ?_, fun c2 => ⟨q, g3, by omega, ?_⟩⟩⟩⟩
      · rw [e2, show (48 : Int32) = nI 48 from rfl, nI_ltI (by omega) (by decide)] at c
        refine fin q σ1 ?_ f1 g2 g3 g5
        rw [← hr, rn_stop]
        rintro ⟨_, z⟩
        rw [isDg_t] at z
        omega
      · rw [e2, show (57 : Int32) = nI 57 from rfl, nI_ltI (by decide) (by omega)] at c2
        refine fin q σ1 ?_ f1 g2 g3 g5
        rw [← hr, rn_stop]
        rintro ⟨_, z⟩
        rw [isDg_t] at z
        omega
      · rw [e2, show (48 : Int32) = nI 48 from rfl, nI_ltI (by omega) (by decide)] at c
        rw [e2, show (57 : Int32) = nI 57 from rfl, nI_ltI (by decide) (by omega)] at c2
        have le : isDg (tp.getD q 0) = true := by rw [isDg_t]; omega
        refine ih (q + 1) _ (by omega) (by omega) (by omega) (by rw [← hr, rn_step (by omega) le]) ((f1.tr (Fr.setI ⟨rfl, by decide⟩).k).tr (Fr.setI ⟨rfl, by decide⟩).k) (by rw [q_I_ne (by decide), q_I_ne (by decide)]; exact g2) ?_ ?_
        · rw [q_I_eq, q_I_ne (by decide), g3, nI_1]
        · rw [q_I_ne (by decide), q_I_eq, g5, e2, show (48 : Int32) = nI 48 from rfl, show (10 : Int32) = nI 10 from rfl, pk_sub (by omega), pk_mul, nI_add, show q + 1 - p = (q - p) + 1 by omega, dgs, show p + (q - p) = q by omega]
  refine v_Tk_readNumber_0 hs (lp _ p _ rfl (Nat.le_refl _) (by omega) rfl (Fr.setI ⟨rfl, by decide⟩).k (by rw [q_I_ne (by decide)]; exact h3) (by rw [q_I_ne (by decide)]; exact h4) ?_)
  rw [q_I_eq, Nat.sub_self]
  rfl
theorem Tk_sign_ok (hd : 5 ≤ d) (hs : q_Sh σ) (hw : WTp tp) (h1 : p < tp.length) (h0 : ¬ isLe (tp.getD p 0) = true) (h2 : ¬ isDg (tp.getD p 0) = true) (h3 : q_I σ 3 2 = nI p) (h4 : q_I σ 3 3 = nI p) (hq : ∀ σ', Fk SKa SKl σ σ' → TKr σ' (tkA tp p) → Q none σ') : q_Call G d 0 0 X_Tk_readSign [.ref 3, .int (nI (tp.getD p 0))] σ Q := by
  obtain ⟨d, rfl⟩ : ∃ d', d = d' + 5 := ⟨d - 5, by omega⟩
  have hc := hw.at h1
  refine q_cv0 (P := fun σ' => Fk SKa SKl σ σ' ∧ TKr σ' (tkA tp p)) (by decide +kernel) (Nat.le_of_ble_eq_true rfl) (fun Q hq => ?_) (fun σ' h => hq σ' h.1 h.2)
  have eA : tkA tp p = ((if isSg (tp.getD p 0) = true then 3 else 4, p, tp.getD p 0, []), p + 1) := by unfold tkA; rw [if_pos h1, if_neg h0, if_neg h2]
  obtain ⟨n1, n2⟩ := pk_charN (q := tp.getD p 0) (by omega)
  refine v_Tk_readSign_0 hs ⟨n1, n2, hq _ ⟨((Fr.setI ⟨rfl, by decide⟩).k.tr (Fr.setI ⟨rfl, by decide⟩).k).tr (Fr.setI ⟨rfl, by decide⟩).k, ?_⟩⟩
  rw [eA]
  refine ⟨?_, ?_, ?_, fun s => ?_, fun s => ?_, fun s => ?_⟩
  · rw [q_I_ne (by decide), q_I_eq]
    show _ = nI (if isSg (tp.getD p 0) = true then 3 else 4)
    have e := ixs_sg (tp.getD p 0) (by omega)
    by_cases c : isSg (tp.getD p 0) = true
    · rw [if_pos c, if_neg (fun z => by rw [e, c] at z; exact absurd z (by decide))]; rfl
    · rw [if_neg c, if_pos (e.mpr (Bool.not_eq_true _ ▸ c))]; rfl
  · rw [q_I_ne (by decide), q_I_ne (by decide), q_I_ne (by decide)]; exact h3
  · rw [q_I_eq, q_I_ne (by decide), q_I_ne (by decide), h4, nI_1]
  · have s : (if isSg (tp.getD p 0) = true then 3 else 4) = 1 := s
    split at s <;> exact absurd s (by decide)
  · have s : (if isSg (tp.getD p 0) = true then 3 else 4) = 2 := s
    split at s <;> exact absurd s (by decide)
  · rw [q_I_ne (by decide), q_I_ne (by decide), q_I_eq]
theorem Tk_adv_ok {b : Nat} (hd : 6 ≤ d) (hs : q_Sh σ) (hw : WTp tp) (hT : CTp σ tp) (h1 : b ≤ tp.length) (h4 : q_I σ 3 3 = nI b) (hq : ∀ σ', Fk SKa SKl σ σ' → TKr σ' (tkA tp (rn isBl tp b)) → Q none σ') : q_Call G d 0 0 X_Tk_advance [.ref 3] σ Q := by
  obtain ⟨d, rfl⟩ : ∃ d', d = d' + 1 := ⟨d - 1, by omega⟩
  have hl := hw.1
  refine q_cv0 (P := fun σ' => Fk SKa SKl σ σ' ∧ TKr σ' (tkA tp (rn isBl tp b))) (by decide +kernel) (Nat.le_of_ble_eq_true rfl) (fun Q hq => ?_) (fun σ' h => hq σ' h.1 h.2)
  have lp : ∀ n q σ1, tp.length - q = n → q ≤ tp.length → rn isBl tp q = rn isBl tp b → Fk SKa SKl σ σ1 → q_I σ1 3 3 = nI q → q_At G X_Tk_advance (d + 1) 0 0 0 [some (.ref 3), none] [] σ1 Q := by
    intro n
    induction n with
    | zero =>
      intro q σ1 hn hql hr f1 g3
      have hT1 := hT.k f1 (fun a i z => SKa_t z)
      have e : q = rn isBl tp b := by rw [← hr, rn_stop (by omega)]
      have c0 : q_I σ1 1 1 ≤ q_I σ1 3 3 := by rw [hT1.1, g3]; exact nI_le (by omega) (by omega)
      have c1 : ¬ q_I σ1 3 3 < q_I σ1 1 1 := by rw [hT1.1, g3]; exact nI_nlt (by omega) (by omega)
      refine v_Tk_advance_0 (f1.sh hs) ⟨fun _ => ⟨fun _ => ⟨fun c => absurd c c1, fun _ => hq _ ⟨(f1.tr (Fr.setI ⟨rfl, by decide⟩).k).tr (Fr.setI ⟨rfl, by decide⟩).k, ?_⟩⟩, fun c => absurd c0 c⟩, fun c => absurd c0 c⟩
      rw [← e, tkA_end (by omega)]
      refine ⟨?_, ?_, ?_, fun s => absurd (show (0 : Nat) = 1 from s) (by decide), fun s => absurd (show (0 : Nat) = 2 from s) (by decide), fun s => absurd (show (0 : Nat) = 3 from s) (by decide)⟩
      · rw [q_I_eq]; rfl
      · rw [q_I_ne (by decide), q_I_eq]; exact g3
      · rw [q_I_ne (by decide), q_I_ne (by decide)]; exact g3
    | succ n ih =>
      intro q σ1 hn hql hr f1 g3
      have hT1 := hT.k f1 (fun a i z => SKa_t z)
      have hs1 := f1.sh hs
      have hc := hw.at (show q < tp.length by omega)
      have e2 := hT1.at (show q < tp.length by omega)
      have c0 : ¬ q_I σ1 1 1 ≤ q_I σ1 3 3 := by rw [hT1.1, g3]; exact nI_ge (by omega) (by omega)
      have c1 : q_I σ1 3 3 < q_I σ1 1 1 := by rw [hT1.1, g3]; exact nI_lt (by omega) (by omega)
      have bl : isBl (tp.getD q 0) = true → q_At G X_Tk_advance (d + 1) 0 0 0 [some (.ref 3), none] [] (q_setI σ1 3 3 ((q_I σ1 3 3) + 1)) Q := fun z => ih (q + 1) _ (by omega) (by omega) (by rw [← hr, rn_step (by omega) z]) (f1.tr (Fr.setI ⟨rfl, by decide⟩).k) (by rw [q_I_eq, g3, nI_1])
      refine v_Tk_advance_0 hs1 ⟨fun c => absurd c c0, fun _ => ⟨q, g3, by omega, fun c => bl ?_, fun c => ⟨q, g3, by omega, fun c2 => ?_, fun c2 => bl ?_⟩⟩⟩
      · rw [e2, show (32 : Int32) = nI 32 from rfl, nI_eq (by omega) (by decide)] at c
        rw [isBl_t]; omega
      · rw [e2, show (32 : Int32) = nI 32 from rfl, nI_eq (by omega) (by decide)] at c
        rw [e2, show (10 : Int32) = nI 10 from rfl, nI_eq (by omega) (by decide)] at c2
        have e : q = rn isBl tp b := by
          rw [← hr, rn_stop]
          rintro ⟨_, z⟩
          rw [isBl_t] at z
          omega
        rw [← e] at hq
        have f2 : Fk SKa SKl σ (q_setI σ1 3 2 (q_I σ1 3 3)) := f1.tr (Fr.setI ⟨rfl, by decide⟩).k
        have hs2 := f2.sh hs
        have hT2 := hT.k f2 (fun a i z => SKa_t z)
        have k2 : q_I (q_setI σ1 3 2 (q_I σ1 3 3)) 3 2 = nI q := by rw [q_I_eq]; exact g3
        have k3 : q_I (q_setI σ1 3 2 (q_I σ1 3 3)) 3 3 = nI q := by rw [q_I_ne (by decide)]; exact g3
        have e3 : q_I (q_setI σ1 3 2 (q_I σ1 3 3)) 2 q = nI (tp.getD q 0) := hT2.at (by omega)
        have sg : ¬ isLe (tp.getD q 0) = true → ¬ isDg (tp.getD q 0) = true → q_Call G d 0 0 X_Tk_readSign [.ref 3, .int (nI (tp.getD q 0))] (q_setI σ1 3 2 (q_I σ1 3 3)) (q_rv (fun σ23 => Q none σ23)) := fun z1 z2 => Tk_sign_ok (by omega) hs2 hw (by omega) z1 z2 k2 k3 (fun σ' f3 g => ⟨f3.sh hs2, rfl, hq _ ⟨f2.tr f3, g⟩⟩)
        have nm : ¬ isLe (tp.getD q 0) = true → isDg (tp.getD q 0) = true → q_Call G d 0 0 X_Tk_readNumber [.ref 3] (q_setI σ1 3 2 (q_I σ1 3 3)) (q_rv (fun σ23 => Q none σ23)) := fun z1 z2 => Tk_number_ok hs2 hw hT2 (by omega) z1 z2 k2 k3 (fun σ' f3 g => ⟨f3.sh hs2, rfl, hq _ ⟨f2.tr f3, g⟩⟩)
        have wd : isLe (tp.getD q 0) = true → q_Call G d 0 0 X_Tk_readWord [.ref 3] (q_setI σ1 3 2 (q_I σ1 3 3)) (q_rv (fun σ23 => Q none σ23)) := fun z1 => Tk_word_ok hs2 hw hT2 (by omega) z1 k2 k3 (fun σ' f3 g => ⟨f3.sh hs2, rfl, hq _ ⟨f2.tr f3, g⟩⟩)
        refine ⟨fun c => absurd c c0, fun _ => ⟨q, k3, by omega, fun _ => ?_, fun c => absurd c1 c⟩⟩
        rw [e3]
        have l97 : (nI (tp.getD q 0) < 97) ↔ tp.getD q 0 < 97 := nI_ltI (b := 97) (by omega) (by decide)
        have l48 : (nI (tp.getD q 0) < 48) ↔ tp.getD q 0 < 48 := nI_ltI (b := 48) (by omega) (by decide)
        have l122 : (122 < nI (tp.getD q 0)) ↔ 122 < tp.getD q 0 := nI_ltI (a := 122) (by decide) (by omega)
        have l57 : (57 < nI (tp.getD q 0)) ↔ 57 < tp.getD q 0 := nI_ltI (a := 57) (by decide) (by omega)
        rw [l97, l48, l122, l57]
        have tL := @isLe_t (tp.getD q 0)
        have tD := @isDg_t (tp.getD q 0)
        refine ⟨fun a1 => ⟨fun a2 => sg (fun z => by rw [tL] at z; omega) (fun z => by rw [tD] at z; omega), fun a2 => ⟨fun a3 => sg (fun z => by rw [tL] at z; omega) (fun z => by rw [tD] at z; omega), fun a3 => nm (fun z => by rw [tL] at z; omega) (by rw [tD]; omega)⟩⟩, fun a1 => ⟨fun a4 => ⟨fun a2 => sg (fun z => by rw [tL] at z; omega) (fun z => by rw [tD] at z; omega), fun a2 => ⟨fun a3 => sg (fun z => by rw [tL] at z; omega) (fun z => by rw [tD] at z; omega), fun a3 => nm (fun z => by rw [tL] at z; omega) (by rw [tD]; omega)⟩⟩, fun a4 => wd (by rw [tL]; omega)⟩⟩
      · rw [e2, show (10 : Int32) = nI 10 from rfl, nI_eq (by omega) (by decide)] at c2
        rw [isBl_t]; omega
  exact lp _ b σ rfl h1 rfl Fk.rf h4
end CTOK
