-- the reference's tokens
def MKa (σ : q_S) (tp : List Nat) (j : Nat) : Prop := q_I σ 161 j = nI (tk tp j).1 ∧ q_I σ 162 j = nI (ps tp j) ∧ ((tk tp j).1 = 1 → q_L σ 163 j = lN (e37 (tk tp j).2.2.2)) ∧ ((tk tp j).1 = 2 ∨ (tk tp j).1 = 3 → q_L σ 163 j = lN (tk tp j).2.2.1)
def MW37 (σ : q_S) : Prop := ∀ k, k < 33 → q_L σ 164 k = q_w37.getD k 0
def CUT (σ : q_S) (tp : List Nat) (M : Nat) : Prop := (∀ j, j ≤ M → MKa σ tp j) ∧ MW37 σ
def SCu : Nat → Nat → Prop := fun a i => a = 161 ∨ a = 162 ∨ (a = 159 ∧ (i = 2 ∨ i = 3 ∨ i = 7 ∨ i = 8))
def LCu : Nat → Nat → Prop := fun a _ => a = 163
theorem le_128 : ∀ c, c < 128 → (if nI c < 97 then (0 : Int32) else (if 122 < nI c then (0 : Int32) else (1 : Int32))) = if isLe c = true then 1 else 0 := by decide +kernel
theorem dg_128 : ∀ c, c < 128 → (if nI c < 48 then (0 : Int32) else (if 57 < nI c then (0 : Int32) else (1 : Int32))) = if isDg c = true then 1 else 0 := by decide +kernel
theorem sg_128 : ∀ c, c < 128 → (if nI c = 40 then (1 : Int32) else (if nI c = 41 then (1 : Int32) else (if nI c = 59 then (1 : Int32) else (if nI c = 61 then (1 : Int32) else (if nI c = 60 then (1 : Int32) else (if nI c = 43 then (1 : Int32) else (if nI c = 45 then (1 : Int32) else (if nI c = 42 then (1 : Int32) else (0 : Int32))))))))) = if isSg c = true then 1 else 0 := by decide +kernel
theorem i10 {p : Prop} [Decidable p] : ((if p then (1 : Int32) else 0) = 0) ↔ ¬ p := if10
section MCUT
variable {G : q_G} {d : Nat} {σ σ' : q_S} {Q : Option Value → q_S → Prop} {tp : List Nat} {M : Nat}
theorem M_isLetter_ok {c : Nat} (hc : c < 128) (hs : q_Sh σ) (hq : Q (some (.int (if isLe c = true then 1 else 0))) σ) : q_Call G d 0 0 X_M_isLetter [.int (nI c)] σ Q := by
  refine q_ci (by decide +kernel) (Nat.le_of_ble_eq_true rfl) (fun Q hq => ?_) hq
  refine v_M_isLetter_0 hs ?_
  rw [le_128 c hc]
  exact ⟨q_nb01, hq⟩
theorem M_isDigit_ok {c : Nat} (hc : c < 128) (hs : q_Sh σ) (hq : Q (some (.int (if isDg c = true then 1 else 0))) σ) : q_Call G d 0 0 X_M_isDigit [.int (nI c)] σ Q := by
  refine q_ci (by decide +kernel) (Nat.le_of_ble_eq_true rfl) (fun Q hq => ?_) hq
  refine v_M_isDigit_0 hs ?_
  rw [dg_128 c hc]
  exact ⟨q_nb01, hq⟩
theorem M_isSignOf_ok {c : Nat} (hc : c < 128) (hs : q_Sh σ) (hq : Q (some (.int (if isSg c = true then 1 else 0))) σ) : q_Call G d 0 0 X_M_isSignOf [.int (nI c)] σ Q := by
  refine q_ci (by decide +kernel) (Nat.le_of_ble_eq_true rfl) (fun Q hq => ?_) hq
  refine v_M_isSignOf_0 hs ?_
  rw [sg_128 c hc]
  exact ⟨q_nb01, hq⟩
theorem M_rank_ok {c : Nat} (hd : 1 ≤ d) (hc : c < 128) (hl : isLe c = true) (hs : q_Sh σ) (hq : Q (some (.int (nI (c - 96)))) σ) : q_Call G d 0 0 X_M_rank [.int (nI c)] σ Q := by
  obtain ⟨d, rfl⟩ : ∃ d', d = d' + 1 := ⟨d - 1, by omega⟩
  refine q_ci (by decide +kernel) (Nat.le_of_ble_eq_true rfl) (fun Q hq => ?_) hq
  refine v_M_rank_0 hs (M_isLetter_ok hc hs ⟨hs, _, rfl, ?_⟩)
  show Q (some (.int (if (if isLe c = true then (1 : Int32) else 0) = 0 then nI c - 21 else nI c - 96))) σ
  rw [if_pos hl, if_neg (by decide), show (96 : Int32) = nI 96 from rfl, pk_sub (by have := isLe_t.mp hl; omega)]
  exact hq
theorem MTp.at {p : Nat} (h : MTp σ tp) (hp : p < tp.length) : q_I σ 160 p = nI (tp.getD p 0) := by
  refine h.2 p _ ?_
  rw [List.getD_eq_getElem?_getD, List.getElem?_eq_getElem hp]
  rfl
theorem MKa.fr {SI SL : Nat → Nat → Prop} {j : Nat} (h : MKa σ tp j) (hf : Fr SI SL σ σ') (hI : ∀ a i, SI a i → ¬ ((a = 161 ∨ a = 162) ∧ i = j)) (hL : ∀ a i, SL a i → ¬ (a = 163 ∧ i = j)) : MKa σ' tp j := by
  unfold MKa
  rw [hf.2.2.1 _ _ (fun z => hI _ _ z ⟨Or.inl rfl, rfl⟩), hf.2.2.1 _ _ (fun z => hI _ _ z ⟨Or.inr rfl, rfl⟩), hf.2.2.2 _ _ (fun z => hL _ _ z ⟨rfl, rfl⟩)]
  exact h
theorem M_cut_ok (hM : IsM tp M) (hMl : M ≤ tp.length) (hd : 2 ≤ d) (hs : q_Sh σ) (hw : WTp tp) (hT : MTp σ tp) (h37 : MW37 σ) (hq : ∀ σ', Fr SCu LCu σ σ' → CUT σ' tp M → q_I σ' 159 7 = nI 0 → q_I σ' 159 8 = 0 → q_I σ' 159 2 = 0 → Q none σ') : q_Call G d 0 0 X_M_cutAll [.ref 159] σ Q := by
  obtain ⟨d, rfl⟩ : ∃ d', d = d' + 1 := ⟨d - 1, by omega⟩
  have hl := hw.1
  refine q_cv0 (P := fun σ' => Fr SCu LCu σ σ' ∧ CUT σ' tp M ∧ q_I σ' 159 7 = nI 0 ∧ q_I σ' 159 8 = 0 ∧ q_I σ' 159 2 = 0) (by decide +kernel) (Nat.le_of_ble_eq_true rfl) (fun Q hq => ?_) (fun σ' h => hq σ' h.1 h.2.1 h.2.2.1 h.2.2.2.1 h.2.2.2.2)
  have T1 : ∀ {σ1 : q_S} {p : Nat}, Fr SCu LCu σ σ1 → p < tp.length → q_I σ1 160 p = nI (tp.getD p 0) := fun f h => by rw [f.2.2.1 _ _ (fun z => by unfold SCu at z; omega)]; exact hT.at h
  have s161 : ∀ {σ1 : q_S} {i : Nat} {v : Int32}, Fr SCu LCu σ1 (q_setI σ1 161 i v) := Fr.setI (Or.inl rfl)
  have s162 : ∀ {σ1 : q_S} {i : Nat} {v : Int32}, Fr SCu LCu σ1 (q_setI σ1 162 i v) := Fr.setI (Or.inr (Or.inl rfl))
  have s163 : ∀ {σ1 : q_S} {i : Nat} {v : Int64}, Fr SCu LCu σ1 (q_setL σ1 163 i v) := Fr.setL rfl
  have ge : ∀ {a b : Nat}, a < 2 ^ 31 → b < 2 ^ 31 → ((nI a ≤ nI b) ↔ a ≤ b) := fun h1 h2 => nI_leI h1 h2
  have lp : ∀ m k n σ1, tp.length - k < m → k ≤ tp.length → n ≤ M → rn isBl tp k = ps tp n → Fr SCu LCu σ σ1 → (∀ j, j < n → MKa σ1 tp j) → q_I σ1 159 3 = nI tp.length → q_I σ1 159 2 = 0 → q_At G X_M_cutAll (d + 1) 0 0 17 [some (.ref 159), some (.int (nI n)), some (.int (nI k)), none, none, none, none] [] σ1 Q := by
    intro m
    induction m with
    | zero => intro k n σ1 h; omega
    | succ m ih =>
      intro k n σ1 hm hk hn hr f1 hj h3 h2
      have hs1 := f1.sh hs
      refine v_M_cutAll_17 hs1 ⟨fun c => ?_, fun c => ?_⟩
      · rw [h3, ge (by omega) (by omega)] at c
        have ek : k = tp.length := by omega
        have en : n = M := by
          refine Classical.byContradiction (fun z => ?_)
          have := hM.2 n (by omega)
          rw [← hr, ek, rn_stop (by omega)] at this
          omega
        subst en
        refine ⟨n, rfl, by omega, n, rfl, by omega, hq _ ⟨((((f1.tr s161).tr s162).tr (Fr.setI (Or.inr (Or.inr ⟨rfl, by omega⟩)))).tr (Fr.setI (Or.inr (Or.inr ⟨rfl, by omega⟩)))), ⟨fun j hjn => ?_, fun q hq => ?_⟩, ?_, q_I_eq, ?_⟩⟩
        · by_cases e : j = n
          · subst e
            refine ⟨?_, ?_, fun z => ?_, fun z => ?_⟩
            · rw [q_I_ne (by omega), q_I_ne (by omega), q_I_ne (by omega), q_I_eq, tk_end hM]; rfl
            · rw [q_I_ne (by omega), q_I_ne (by omega), q_I_eq, q_I_ne (by omega), h3, hM.1]
            · rw [tk_end hM] at z; exact absurd (show (0 : Nat) = 1 from z) (by decide)
            · rw [tk_end hM] at z; exact absurd (show (0 : Nat) = 2 ∨ (0 : Nat) = 3 from z) (by decide)
          · refine (hj j (by omega)).fr (SI := fun a i => a = 159 ∨ i = n) (SL := noL) ((((Fr.setI (Or.inr rfl)).tr (Fr.setI (Or.inr rfl))).tr (Fr.setI (Or.inl rfl))).tr (Fr.setI (Or.inl rfl))) (fun a i z => by omega) (fun _ _ z => z.elim)
        · show q_L σ1 164 q = _
          rw [f1.2.2.2 _ _ (fun z => by unfold LCu at z; omega)]
          exact h37 q hq
        · rw [q_I_ne (by omega), q_I_eq]; rfl
        · rw [q_I_ne (by omega), q_I_ne (by omega), q_I_ne (by omega), q_I_ne (by omega)]; exact h2
      · rw [h3, ge (by omega) (by omega)] at c
        have hkl : k < tp.length := by omega
        have hc := hw.at hkl
        have ec := T1 f1 hkl
        refine ⟨k, rfl, by omega, ?_⟩
        rw [ec]
        have e10 : (nI (tp.getD k 0) = 10) ↔ tp.getD k 0 = 10 := nI_eq (b := 10) (by omega) (by decide)
        have e32 : (nI (tp.getD k 0) = 32) ↔ tp.getD k 0 = 32 := nI_eq (b := 32) (by omega) (by decide)
        have bl : isBl (tp.getD k 0) = true → q_At G X_M_cutAll (d + 1) 0 0 17 [some (.ref 159), some (.int (nI n)), some (.int (nI k + 1)), none, none, none, none] [] σ1 Q := fun z => by
          rw [nI_1]
          exact ih (k + 1) n σ1 (by omega) (by omega) hn (by rw [← hr, rn_step hkl z]) f1 hj h3 h2
        refine ⟨fun z => bl (isBl_t.mpr (Or.inr (e10.mp z))), fun c10 => ⟨fun c32 => ?_, fun z => bl (isBl_t.mpr (Or.inl (e32.mp z)))⟩⟩
        rw [e10] at c10
        rw [e32] at c32
        have nb : ¬ isBl (tp.getD k 0) = true := fun z => by rw [isBl_t] at z; omega
        have ep : ps tp n = k := by rw [← hr, rn_stop (fun z => nb z.2)]
        have hnM : n < M := by
          refine Nat.lt_of_le_of_ne hn (fun e => ?_)
          have := hM.1
          rw [← e, ep] at this
          omega
        have etk : tk tp n = (tkA tp k).1 := by unfold tk; rw [ep]
        refine ⟨n, rfl, by omega, ?_⟩
        have f2 : Fr SCu LCu σ (q_setI σ1 162 n (nI k)) := f1.tr s162
        have hs2 := f2.sh hs
        have p2 : q_I (q_setI σ1 162 n (nI k)) 162 n = nI (ps tp n) := by rw [q_I_eq, ep]
        have hj2 : ∀ j, j < n → MKa (q_setI σ1 162 n (nI k)) tp j := fun j hjn => (hj j hjn).fr (SI := fun a i => i = n) (SL := noL) (Fr.setI rfl) (fun a i z => by omega) (fun _ _ z => z.elim)
        have h32 : q_I (q_setI σ1 162 n (nI k)) 159 3 = nI tp.length := by rw [q_I_ne (by omega)]; exact h3
        have h22 : q_I (q_setI σ1 162 n (nI k)) 159 2 = 0 := by rw [q_I_ne (by omega)]; exact h2
        -- a token is kept
        have keep : ∀ q v x, q = (tkA tp k).2 → v = nI (tkA tp k).1.1 → ((tkA tp k).1.1 = 1 → x = lN (e37 (tkA tp k).1.2.2.2)) → ((tkA tp k).1.1 = 2 ∨ (tkA tp k).1.1 = 3 → x = lN (tkA tp k).1.2.2.1) → q_At G X_M_cutAll (d + 1) 0 0 17 [some (.ref 159), some (.int (nI n + 1)), some (.int (nI q)), none, none, none, none] [] (q_setL (q_setI (q_setI σ1 162 n (nI k)) 161 n v) 163 n x) Q := by
          intro q v x eq ev ex1 ex2
          obtain ⟨n1, n2⟩ := tkA_nx hkl
          rw [← eq] at n1 n2
          rw [nI_1]
          refine ih q (n + 1) _ (by omega) n2 hnM (by rw [ps, ep, eq]) ((f2.tr s161).tr s163) (fun j hjn => ?_) (by rw [q_I_setL, q_I_ne (by omega)]; exact h32) (by rw [q_I_setL, q_I_ne (by omega)]; exact h22)
          by_cases e : j = n
          · subst e
            refine ⟨?_, ?_, fun z => ?_, fun z => ?_⟩
            · rw [q_I_setL, q_I_eq, ev, etk]
            · rw [q_I_setL, q_I_ne (by omega)]; exact p2
            · rw [q_L_eq]; rw [etk] at z ⊢; exact ex1 z
            · rw [q_L_eq]; rw [etk] at z ⊢; exact ex2 z
          · have fk : Fr (fun a i => i = n) (fun a i => i = n) (q_setI σ1 162 n (nI k)) (q_setL (q_setI (q_setI σ1 162 n (nI k)) 161 n v) 163 n x) := Fr.tr (σ1 := q_setI (q_setI σ1 162 n (nI k)) 161 n v) (Fr.setI (SI := fun a i => i = n) (SL := fun a i => i = n) rfl) (Fr.setL (SI := fun a i => i = n) (SL := fun a i => i = n) rfl)
            exact (hj2 j (by omega)).fr fk (fun a i z => by omega) (fun a i z => by omega)
        refine M_isLetter_ok (by omega) hs2 ⟨hs2, _, rfl, fun cl => ?_, fun cl => ?_⟩
        · rw [i10] at cl
          refine M_isDigit_ok (by omega) hs2 ⟨hs2, _, rfl, fun cd => ?_, fun cd => ?_⟩
          · rw [i10] at cd
            refine M_isSignOf_ok (by omega) hs2 ⟨hs2, _, rfl, n, rfl, by omega, n, rfl, by omega, ?_⟩
            have eA : tkA tp k = ((if isSg (tp.getD k 0) = true then 3 else 4, k, tp.getD k 0, []), k + 1) := by unfold tkA; rw [if_pos hkl, if_neg cl, if_neg cd]
            rw [nI_1 k]
            refine keep (k + 1) _ _ (by rw [eA]) ?_ (fun z => ?_) (fun _ => by rw [eA]; exact nI_l (by omega))
            · rw [eA]
              show _ = nI (if isSg (tp.getD k 0) = true then 3 else 4)
              by_cases cs : isSg (tp.getD k 0) = true
              · rw [if_pos cs, if_pos cs, if_neg (by decide)]; rfl
              · rw [if_neg cs, if_neg cs, if_pos rfl]; rfl
            · rw [eA] at z
              have z : (if isSg (tp.getD k 0) = true then 3 else 4) = 1 := z
              split at z <;> exact absurd z (by decide)
          · rw [i10, Decidable.not_not] at cd
            have eA : tkA tp k = ((if rn isDg tp k - k ≤ 4 then 2 else 4, k, dgs tp k (rn isDg tp k - k), []), rn isDg tp k) := by unfold tkA; rw [if_pos hkl, if_neg cl, if_pos cd]
            have hE : rn isDg tp k ≤ tp.length := rn_le (by omega)
            have fin : ∀ q x, q = rn isDg tp k → x = lN (dgs tp k (if q - k ≤ 4 then q - k else 4)) → q_At G X_M_cutAll (d + 1) 0 0 17 [some (.ref 159), some (.int (nI n + 1)), some (.int (nI q)), none, none, none, none] [] (q_setL (q_setI (q_setI σ1 162 n (nI k)) 161 n (if (nI q - nI k) ≤ 4 then (2 : Int32) else (4 : Int32))) 163 n x) Q := by
              intro q x eq ex
              have hkq : k ≤ q := by rw [eq]; exact rn_ge _ _ _
              have e4 : (nI q - nI k ≤ 4) ↔ q - k ≤ 4 := by rw [pk_sub hkq]; exact ge (b := 4) (by omega) (by decide)
              refine keep q _ _ (by rw [eA]; exact eq) ?_ (fun z => ?_) (fun z => ?_)
              · rw [eA]
                show _ = nI (if rn isDg tp k - k ≤ 4 then 2 else 4)
                rw [← eq]
                by_cases cs : q - k ≤ 4
                · rw [if_pos cs, if_pos (e4.mpr cs)]; rfl
                · rw [if_neg cs, if_neg (fun z => cs (e4.mp z))]; rfl
              · rw [eA] at z
                have z : (if rn isDg tp k - k ≤ 4 then 2 else 4) = 1 := z
                split at z <;> exact absurd z (by decide)
              · rw [eA] at z ⊢
                have z : (if rn isDg tp k - k ≤ 4 then 2 else 4) = 2 ∨ (if rn isDg tp k - k ≤ 4 then 2 else 4) = 3 := z
                have c4 : rn isDg tp k - k ≤ 4 := Classical.byContradiction (fun y => by rw [if_neg y] at z; omega)
                show x = lN (dgs tp k (rn isDg tp k - k))
                rw [ex, ← eq, if_pos (by rw [eq]; exact c4)]
            have lp2 : ∀ m2 q x, tp.length - q < m2 → k ≤ q → q ≤ tp.length → rn isDg tp q = rn isDg tp k → x = lN (dgs tp k (if q - k ≤ 4 then q - k else 4)) → q_At G X_M_cutAll (d + 1) 0 0 159 [some (.ref 159), some (.int (nI n)), some (.int (nI q)), some (.int (nI (tp.getD k 0))), some (.int (nI k)), some (.long x), none] [] (q_setI σ1 162 n (nI k)) Q := by
              intro m2
              induction m2 with
              | zero => intro q x h; omega
              | succ m2 ih2 =>
                intro q x hm2 hkq hql hrq ex
                refine v_M_cutAll_159 hs2 ⟨fun c => ?_, fun c => ?_⟩
                · rw [h32, ge (by omega) (by omega)] at c
                  exact ⟨n, rfl, by omega, n, rfl, by omega, fin q x (by rw [← hrq, rn_stop (by omega)]) ex⟩
                · rw [h32, ge (by omega) (by omega)] at c
                  have hq1 : q < tp.length := by omega
                  have hcq := hw.at hq1
                  refine ⟨q, rfl, by omega, ?_⟩
                  rw [T1 f2 hq1]
                  refine M_isDigit_ok (by omega) hs2 ⟨hs2, _, rfl, fun c2 => ?_, fun c2 => ?_⟩
                  · rw [i10] at c2
                    exact ⟨n, rfl, by omega, n, rfl, by omega, fin q x (by rw [← hrq, rn_stop (fun z => c2 z.2)]) ex⟩
                  · rw [i10, Decidable.not_not] at c2
                    have hdg := isDg_t.mp c2
                    have e4 : (4 ≤ nI q - nI k) ↔ 4 ≤ q - k := by rw [pk_sub hkq]; exact ge (a := 4) (by decide) (by omega)
                    refine ⟨fun c4 => ?_, fun c4 => ⟨q, rfl, by omega, ?_⟩⟩
                    · rw [e4] at c4
                      rw [nI_1 q]
                      refine ih2 (q + 1) x (by omega) (by omega) (by omega) (by rw [← hrq, rn_step hq1 c2]) ?_
                      rw [ex, if_neg (show ¬ q + 1 - k ≤ 4 by omega)]
                      by_cases e : q - k ≤ 4
                      · rw [if_pos e, show q - k = 4 by omega]
                      · rw [if_neg e]
                    · rw [e4] at c4
                      rw [nI_1 q, T1 f2 hq1]
                      refine ih2 (q + 1) _ (by omega) (by omega) (by omega) (by rw [← hrq, rn_step hq1 c2]) ?_
                      rw [ex, if_pos (show q + 1 - k ≤ 4 by omega), if_pos (show q - k ≤ 4 by omega), show q + 1 - k = (q - k) + 1 by omega, dgs, show k + (q - k) = q by omega, nI_l (by omega), show (10 : Int64) = lN 10 from rfl, show (48 : Int64) = lN 48 from rfl, lN_mul, lN_add, lN_sub (by omega)]
                      congr 1
                      omega
            refine lp2 _ k 0 (Nat.lt_succ_self _) (Nat.le_refl _) (by omega) rfl ?_
            rw [Nat.sub_self, if_pos (by decide)]
            rfl
        · rw [i10, Decidable.not_not] at cl
          have eA : tkA tp k = ((if rn isLe tp k - k ≤ 8 then 1 else 4, k, wix (ltr tp k (rn isLe tp k - k)), ltr tp k (rn isLe tp k - k)), rn isLe tp k) := by unfold tkA; rw [if_pos hkl, if_pos cl]
          have hE : rn isLe tp k ≤ tp.length := rn_le (by omega)
          have fin : ∀ q x, q = rn isLe tp k → x = lN (e37 (ltr tp k (if q - k ≤ 8 then q - k else 8))) → q_At G X_M_cutAll (d + 1) 0 0 17 [some (.ref 159), some (.int (nI n + 1)), some (.int (nI q)), none, none, none, none] [] (q_setL (q_setI (q_setI σ1 162 n (nI k)) 161 n (if (nI q - nI k) ≤ 8 then (1 : Int32) else (4 : Int32))) 163 n x) Q := by
            intro q x eq ex
            have hkq : k ≤ q := by rw [eq]; exact rn_ge _ _ _
            have e4 : (nI q - nI k ≤ 8) ↔ q - k ≤ 8 := by rw [pk_sub hkq]; exact ge (b := 8) (by omega) (by decide)
            refine keep q _ _ (by rw [eA]; exact eq) ?_ (fun z => ?_) (fun z => ?_)
            · rw [eA]
              show _ = nI (if rn isLe tp k - k ≤ 8 then 1 else 4)
              rw [← eq]
              by_cases cs : q - k ≤ 8
              · rw [if_pos cs, if_pos (e4.mpr cs)]; rfl
              · rw [if_neg cs, if_neg (fun z => cs (e4.mp z))]; rfl
            · rw [eA] at z ⊢
              have z : (if rn isLe tp k - k ≤ 8 then 1 else 4) = 1 := z
              have c4 : rn isLe tp k - k ≤ 8 := Classical.byContradiction (fun y => by rw [if_neg y] at z; omega)
              show x = lN (e37 (ltr tp k (rn isLe tp k - k)))
              rw [ex, ← eq, if_pos (by rw [eq]; exact c4)]
            · rw [eA] at z
              have z : (if rn isLe tp k - k ≤ 8 then 1 else 4) = 2 ∨ (if rn isLe tp k - k ≤ 8 then 1 else 4) = 3 := z
              split at z <;> omega
          have lp2 : ∀ m2 q x, tp.length - q < m2 → k ≤ q → q ≤ tp.length → rn isLe tp q = rn isLe tp k → x = lN (e37 (ltr tp k (if q - k ≤ 8 then q - k else 8))) → q_At G X_M_cutAll (d + 1) 0 0 70 [some (.ref 159), some (.int (nI n)), some (.int (nI q)), some (.int (nI (tp.getD k 0))), some (.int (nI k)), some (.long x), none] [] (q_setI σ1 162 n (nI k)) Q := by
            intro m2
            induction m2 with
            | zero => intro q x h; omega
            | succ m2 ih2 =>
              intro q x hm2 hkq hql hrq ex
              refine v_M_cutAll_70 hs2 ⟨fun c => ?_, fun c => ?_⟩
              · rw [h32, ge (by omega) (by omega)] at c
                exact ⟨n, rfl, by omega, n, rfl, by omega, fin q x (by rw [← hrq, rn_stop (by omega)]) ex⟩
              · rw [h32, ge (by omega) (by omega)] at c
                have hq1 : q < tp.length := by omega
                have hcq := hw.at hq1
                refine ⟨q, rfl, by omega, ?_⟩
                rw [T1 f2 hq1]
                refine M_isLetter_ok (by omega) hs2 ⟨hs2, _, rfl, fun c2 => ?_, fun c2 => ?_⟩
                · rw [i10] at c2
                  exact ⟨n, rfl, by omega, n, rfl, by omega, fin q x (by rw [← hrq, rn_stop (fun z => c2 z.2)]) ex⟩
                · rw [i10, Decidable.not_not] at c2
                  have hdg := isLe_t.mp c2
                  have e4 : (8 ≤ nI q - nI k) ↔ 8 ≤ q - k := by rw [pk_sub hkq]; exact ge (a := 8) (by decide) (by omega)
                  refine ⟨fun c4 => ?_, fun c4 => ⟨q, rfl, by omega, ?_⟩⟩
                  · rw [e4] at c4
                    rw [nI_1 q]
                    refine ih2 (q + 1) x (by omega) (by omega) (by omega) (by rw [← hrq, rn_step hq1 c2]) ?_
                    rw [ex, if_neg (show ¬ q + 1 - k ≤ 8 by omega)]
                    by_cases e : q - k ≤ 8
                    · rw [if_pos e, show q - k = 8 by omega]
                    · rw [if_neg e]
                  · rw [e4] at c4
                    rw [T1 f2 hq1]
                    refine M_rank_ok (by omega) (by omega) c2 hs2 ⟨hs2, _, rfl, ?_⟩
                    rw [nI_1 q]
                    refine ih2 (q + 1) _ (by omega) (by omega) (by omega) (by rw [← hrq, rn_step hq1 c2]) ?_
                    rw [ex, if_pos (show q + 1 - k ≤ 8 by omega), if_pos (show q - k ≤ 8 by omega), show q + 1 - k = (q - k) + 1 by omega, ltr, e37_s, show k + (q - k) = q by omega, nI_l (by omega), show (37 : Int64) = lN 37 from rfl, lN_mul, lN_add]
          refine lp2 _ k 0 (Nat.lt_succ_self _) (Nat.le_refl _) (by omega) rfl ?_
          rw [Nat.sub_self, if_pos (by decide)]
          rfl
  refine v_M_cutAll_0 hs ?_
  exact lp _ 0 0 _ (Nat.lt_succ_self _) (Nat.zero_le _) (Nat.zero_le _) rfl ((Fr.setI (Or.inr (Or.inr ⟨rfl, by omega⟩))).tr (Fr.setI (Or.inr (Or.inr ⟨rfl, by omega⟩)))) (fun j h => absurd h (Nat.not_lt_zero j)) (by rw [q_I_ne (by omega), q_I_eq]; exact hT.1) q_I_eq
end MCUT
