def CS (σ : q_S) (a0 : Nat) (S : List Int32) : Prop := q_I σ a0 5 = nI S.length ∧ ∀ j, j < S.length → q_I σ (a0 + 1) j = S.getD j 0
def SEa (a0 : Nat) : Nat → Nat → Prop := fun a i => (a = a0 ∧ i = 5) ∨ a = a0 + 1
def SEx (a0 : Nat) : Nat → Nat → Prop := fun a i => a = 3 ∨ (a = a0 ∧ i = 5) ∨ a = a0 + 1
theorem isLa_cases {a : Nat} (h : q_isLa a) : a = 40 ∨ a = 59 := (by decide : ∀ a ∈ q_lLa, a = 40 ∨ a = 59) a h
def LaV (tp : List Nat) (a0 : Nat) (σ : q_S) (S : List Int32) (r : q_xr) (v : Int32) (σ' : q_S) : Prop := (r.1 = 0 ∧ v = 1 ∧ Fk (SEx a0) SKl σ σ' ∧ CK σ' tp r.2.1 ∧ CS σ' a0 (S ++ r.2.2) ∧ q_I σ' 3 9 = 0) ∨ (r.1 ≠ 0 ∧ v = 0 ∧ Fk (SEx a0) SKl σ σ' ∧ q_I σ' 3 9 = nI (flt tp r.1 r.2.1))
def LaPre (tp : List Nat) (M a0 : Nat) (σ : q_S) (S : List Int32) (i : Nat) : Prop := q_Sh σ ∧ CK σ tp i ∧ CS σ a0 S ∧ S.length ≤ 15 + i ∧ q_I σ 3 9 = 0 ∧ i ≤ M
def LaC (G : q_G) (tp : List Nat) (w M a0 : Nat) (X : q_M) (m k n : Nat) : Prop := ∀ (e i : Nat) (σ : q_S) (S : List Int32) (dd : Nat) (Q : Option Value → q_S → Prop), 8 * (M - i) + k ≤ n → e ≤ 5 → 5 * (5 - e) + 7 + k ≤ dd → LaPre tp M a0 σ S i → (∀ v σ', LaV tp a0 σ S (ex tp w n m e i) v σ' → Q (some (.int v)) σ') → q_Call G dd 0 0 X [.ref a0, .ref 3, .int (nI w), .int (nI e)] σ Q
def LaL (G : q_G) (tp : List Nat) (w M a0 : Nat) (X : q_M) (m k : Nat) (tl : List (Option Value)) (n : Nat) : Prop := ∀ (e i c : Nat) (σ : q_S) (S : List Int32) (dd : Nat) (Q : Option Value → q_S → Prop), 8 * (M - i) + 1 ≤ n → c ≤ i → e ≤ 5 → 5 * (5 - e) + 7 + k ≤ dd → LaPre tp M a0 σ S i → (∀ v σ', LaV tp a0 σ S (ex tp w n m e i) v σ' → Q (some (.int v)) σ') → q_At G X dd 0 0 15 (some (.ref a0) :: some (.ref 3) :: some (.int (nI w)) :: some (.int (nI e)) :: some (.int (nI c)) :: tl) [] σ Q
theorem fct_sm : ∀ v, v < 34 → ((q_smap.getD v 0).toInt < 5 ∨ 12 < (q_smap.getD v 0).toInt → fct 0 v = 3 ∧ fct 1 v = 3 ∧ fct 2 v = 3) ∧ ((q_smap.getD v 0).toInt = 5 → v = 25) ∧ ((q_smap.getD v 0).toInt = 6 → v = 26) ∧ ((q_smap.getD v 0).toInt = 7 → v = 27) ∧ ((q_smap.getD v 0).toInt = 8 → v = 28) ∧ ((q_smap.getD v 0).toInt = 9 → v = 29) ∧ ((q_smap.getD v 0).toInt = 10 → v = 30) ∧ ((q_smap.getD v 0).toInt = 11 → v = 31) ∧ ((q_smap.getD v 0).toInt = 12 → v = 32) := by decide +kernel
def fcI (w v : Nat) : Int32 := if fct w v < 3 then nI (fct w v) else -1
theorem fcI_at : ∀ w, w < 3 → (if nI w = 0 then (0 : Int32) else -1) = fcI w 25 ∧ (if nI w = 0 then (1 : Int32) else -1) = fcI w 26 ∧ (if nI w = 0 then (2 : Int32) else -1) = fcI w 27 ∧ (if nI w = 1 then (0 : Int32) else (if nI w = 2 then 2 else -1)) = fcI w 28 ∧ (if nI w = 1 then (1 : Int32) else -1) = fcI w 29 ∧ (if nI w = 1 then (2 : Int32) else -1) = fcI w 30 ∧ (if nI w = 2 then (0 : Int32) else -1) = fcI w 31 ∧ (if nI w = 2 then (1 : Int32) else -1) = fcI w 32 := by decide +kernel
theorem fct_le (w v : Nat) : fct w v ≤ 3 := by
  unfold fct
  split
  · split
    · decide
    · split
      · decide
      · split <;> decide
  · split
    · split
      · decide
      · split
        · decide
        · split <;> decide
    · split
      · decide
      · split
        · decide
        · split <;> decide
section CEXPR
variable {G : q_G} {d : Nat} {σ σ' σ1 : q_S} {Q : Option Value → q_S → Prop} {tp : List Nat} {i w M a0 n : Nat} {S : List Int32}
theorem La_fact_ok (hw3 : w < 3) (hd : 1 ≤ d) (hs : q_Sh σ) (hK : CK σ tp i) (hq : Q (some (.int (if isF w (tk tp i) then nI (fct w (tk tp i).2.2.1) else -1))) σ) : q_Call G d 0 0 X_La_factHere [.ref 3, .int (nI w)] σ Q := by
  obtain ⟨d, rfl⟩ : ∃ d', d = d' + 1 := ⟨d - 1, by omega⟩
  refine q_ci (by decide +kernel) (Nat.le_of_ble_eq_true rfl) (fun Q hq => ?_) hq
  refine v_La_factHere_0 hs ⟨fun c => ?_, fun c => ?_⟩
  · rw [show (1 : Int32) = nI 1 from rfl, hK.s1 (by decide)] at c
    have v34 := tk_v33 c
    obtain ⟨s0, s5, s6, s7, s8, s9, s10, s11, s12⟩ := fct_sm _ v34
    obtain ⟨a1, a2, a3, a4, a5, a6, a7, a8⟩ := fcI_at w hw3
    have e : (if isF w (tk tp i) then nI (fct w (tk tp i).2.2.1) else -1) = fcI w (tk tp i).2.2.1 := by
      unfold fcI
      by_cases z : fct w (tk tp i).2.2.1 < 3
      · rw [if_pos (isF_t.mpr ⟨c, z⟩), if_pos z]
      · rw [if_neg (fun y => z (isF_t.mp y).2), if_neg z]
    rw [e] at hq
    refine ⟨(tk tp i).2.2.1, (hK.2.2.2.2.1 c).2, v34, (tk tp i).2.2.1, rfl, v34, fun z => ?_, fun z => ?_, fun z => ?_, fun z => ?_, fun z => ?_, fun z => ?_, fun z => ?_, fun z => ?_, fun z => ?_⟩
    · obtain ⟨y0, y1, y2⟩ := s0 z
      unfold fcI at hq
      have : fct w (tk tp i).2.2.1 = 3 := by
        have : w = 0 ∨ w = 1 ∨ w = 2 := by omega
        rcases this with h | h | h <;> subst h <;> assumption
      rw [this, if_neg (by decide)] at hq
      exact hq
    · rw [s5 z] at hq; rw [a1]; exact hq
    · rw [s6 z] at hq; rw [a2]; exact hq
    · rw [s7 z] at hq; rw [a3]; exact hq
    · rw [s8 z] at hq; rw [a4]; exact hq
    · rw [s9 z] at hq; rw [a5]; exact hq
    · rw [s10 z] at hq; rw [a6]; exact hq
    · rw [s11 z] at hq; rw [a7]; exact hq
    · rw [s12 z] at hq; rw [a8]; exact hq
  · rw [show (1 : Int32) = nI 1 from rfl, hK.s1 (by decide)] at c
    rw [if_neg (fun y => c (isF_t.mp y).1)] at hq
    exact hq
theorem getD_app {S : List Int32} {s : Int32} {j : Nat} (h : j < S.length) : (S ++ [s]).getD j 0 = S.getD j 0 := by
  rw [List.getD_eq_getElem?_getD, List.getD_eq_getElem?_getD, List.getElem?_append_left h]
theorem getD_last {S : List Int32} {s : Int32} : (S ++ [s]).getD S.length 0 = s := by
  rw [List.getD_eq_getElem?_getD, List.getElem?_append_right (Nat.le_refl _), Nat.sub_self]
  rfl
theorem La_addStep_ok {s : Int32} (ha : q_isLa a0) (hs : q_Sh σ) (hC : CS σ a0 S) (hl : S.length < 1024) (hq : ∀ σ', Fr (SEa a0) noL σ σ' → CS σ' a0 (S ++ [s]) → Q none σ') : q_Call G d 0 0 X_La_addStep [.ref a0, .int s] σ Q := by
  refine q_cv0 (P := fun σ' => Fr (SEa a0) noL σ σ' ∧ CS σ' a0 (S ++ [s])) (by decide +kernel) (Nat.le_of_ble_eq_true rfl) (fun Q hq => ?_) (fun σ' h => hq σ' h.1 h.2)
  have h0 := isLa_cases ha
  refine v_La_addStep_0 ha hs ⟨fun c => by rw [hC.1] at c; exact ge_not (a := S.length) (b := 1024) c hl (by decide), fun _ => ⟨S.length, hC.1, hl, hq _ ⟨(Fr.setI (Or.inr rfl)).tr (Fr.setI (Or.inl ⟨rfl, rfl⟩)), ?_, fun j hj => ?_⟩⟩⟩
  · rw [q_I_eq, q_I_ne (by omega), hC.1, nI_1, List.length_append]
    rfl
  · rw [List.length_append] at hj
    have hj : j < S.length + 1 := hj
    rw [q_I_ne (by omega)]
    by_cases e : j = S.length
    · subst e
      rw [q_I_eq, getD_last]
    · rw [q_I_ne (by omega), getD_app (by omega)]
      exact hC.2 j (by omega)
theorem CK.ea (ha : q_isLa a0) (hK : CK σ tp i) (hf : Fr (SEa a0) noL σ σ') : CK σ' tp i := by
  have h0 := isLa_cases ha
  exact hK.k hf (fun a j z => by unfold SEa at z; omega) (fun _ _ z => z.elim)
theorem CS.ka (ha : q_isLa a0) (hC : CS σ a0 S) {SI SL : Nat → Nat → Prop} (hf : Fk SI SL σ σ') (hI : ∀ a j, SI a j → a = 3) : CS σ' a0 S := by
  have h0 := isLa_cases ha
  exact ⟨by rw [hf.2.2.1 _ _ (fun z => by have := hI _ _ z; omega)]; exact hC.1, fun j hj => by rw [hf.2.2.1 _ _ (fun z => by have := hI _ _ z; omega)]; exact hC.2 j hj⟩
theorem FkA (hf : Fk SKa SKl σ σ') : Fk (SEx a0) SKl σ σ' := hf.mono (fun a j z => Or.inl z.1) (fun _ _ z => z)
theorem FkE (hf : Fr (SEa a0) noL σ σ') : Fk (SEx a0) SKl σ σ' := hf.k.mono (fun a j z => Or.inr z) (fun _ _ z => z.elim)
theorem Fk9 (hf : Fr S39 noL σ σ') : Fk (SEx a0) SKl σ σ' := hf.k.mono (fun a j z => Or.inl z.1) (fun _ _ z => z.elim)
theorem f39 (hf : Fk SKa SKl σ σ') (h : q_I σ 3 9 = 0) : q_I σ' 3 9 = 0 := by rw [hf.2.2.1 _ _ (fun z => absurd z.2 (by decide))]; exact h
theorem f39e (ha : q_isLa a0) (hf : Fr (SEa a0) noL σ σ') (h : q_I σ 3 9 = 0) : q_I σ' 3 9 = 0 := by
  have h0 := isLa_cases ha
  rw [hf.2.2.1 _ _ (fun z => by unfold SEa at z; omega)]
  exact h
-- a reading behind another one
theorem LaV.join {r r2 : q_xr} {k : Nat → q_xr} {v : Int32} (h0 : r.1 = 0) (hf : Fk (SEx a0) SKl σ σ1) (hk : k r.2.1 = r2) (h : LaV tp a0 σ1 (S ++ r.2.2) r2 v σ') : LaV tp a0 σ S (exJ r k) v σ' := by
  rw [exJ_0 h0, hk]
  rcases h with ⟨a1, a2, a3, a4, a5, a6⟩ | ⟨a1, a2, a3, a4⟩
  · refine Or.inl ⟨a1, a2, hf.tr a3, a4, ?_, a6⟩
    show CS σ' a0 (S ++ (r.2.2 ++ r2.2.2))
    rw [← List.append_assoc]
    exact a5
  · exact Or.inr ⟨a1, a2, hf.tr a3, a4⟩
theorem LaV.fail {r : q_xr} {k : Nat → q_xr} {v : Int32} (h0 : r.1 ≠ 0) (h : LaV tp a0 σ S r v σ') : LaV tp a0 σ S (exJ r k) v σ' := by rw [exJ_n h0]; exact h
theorem LaV.mv {r : q_xr} {v : Int32} (hf : Fk (SEx a0) SKl σ σ1) (h : LaV tp a0 σ1 S r v σ') : LaV tp a0 σ S r v σ' := by
  rcases h with ⟨a1, a2, a3, a4, a5, a6⟩ | ⟨a1, a2, a3, a4⟩
  · exact Or.inl ⟨a1, a2, hf.tr a3, a4, a5, a6⟩
  · exact Or.inr ⟨a1, a2, hf.tr a3, a4⟩
theorem LaPre.next {r : q_xr} (hM : IsM tp M) (hy : okx M i r) (hP : LaPre tp M a0 σ S i) (h0 : r.1 = 0) (hf : Fk (SEx a0) SKl σ σ1) (h1 : CK σ1 tp r.2.1) (h2 : CS σ1 a0 (S ++ r.2.2)) (h3 : q_I σ1 3 9 = 0) : LaPre tp M a0 σ1 (S ++ r.2.2) r.2.1 := by
  refine ⟨hf.sh hP.1, h1, h2, ?_, h3, hy.2.1⟩
  have := hy.2.2 h0
  have := hP.2.2.2.1
  rw [List.length_append]
  omega
theorem LaPre.adv (ha : q_isLa a0) (hP : LaPre tp M a0 σ S i) (hi : i < M) (hf : Fk SKa SKl σ σ1) (h1 : CK σ1 tp (i + 1)) : LaPre tp M a0 σ1 S (i + 1) := ⟨hf.sh hP.1, h1, hP.2.2.1.ka ha hf (fun a j z => z.1), by have := hP.2.2.2.1; omega, f39 hf hP.2.2.2.2.1, hi⟩
-- an operator: its token is left, what stands behind it is read, the step is added
theorem La_op {X : q_M} {m k e d : Nat} {o : Int32} {K : q_S → Prop} {Z : q_S → Prop} (hM : IsM tp M) (hM1 : M ≤ 1000) (hw : WTp tp) (ha : q_isLa a0) (hX : LaC G tp w M a0 X m k n) (hy : okx M (i + 1) (ex tp w n m e (i + 1))) (hn : 8 * (M - (i + 1)) + k ≤ n) (he : e ≤ 5) (hd : 5 * (5 - e) + 7 + k ≤ d) (hP : LaPre tp M a0 σ S i) (hi : i < M) (h1 : (exO (ex tp w n m e (i + 1)) o).1 = 0 → ∀ σ', Fk (SEx a0) SKl σ σ' → LaPre tp M a0 σ' (S ++ (exO (ex tp w n m e (i + 1)) o).2.2) (exO (ex tp w n m e (i + 1)) o).2.1 → K σ') (h0 : (exO (ex tp w n m e (i + 1)) o).1 ≠ 0 → ∀ σ', LaV tp a0 σ S (exO (ex tp w n m e (i + 1)) o) 0 σ' → Z σ') :
    q_Call G d 0 0 X_Tk_advance [.ref 3] σ (q_rv (fun σ12 => q_Call G d 0 0 X [.ref a0, .ref 3, .int (nI w), .int (nI e)] σ12 (q_ri (fun x17 σ15 => ((¬ x17 = 0 → q_Call G d 0 0 X_La_addStep [.ref a0, .int o] σ15 (q_rv K)) ∧ (x17 = 0 → Z σ15)))))) := by
  have hs := hP.1
  refine Tk_next (by omega) hs hw hP.2.1 (fun σ1 f1 g1 => ⟨f1.sh hs, rfl, ?_⟩)
  have hP1 := hP.adv ha hi f1 g1
  refine hX e (i + 1) σ1 S d _ hn he hd hP1 (fun v σ2 hV => ?_)
  rcases hV with ⟨r0, rfl, f2, k2, s2, z2⟩ | ⟨r0, rfl, f2, z2⟩
  · have hP2 := hP1.next hM hy r0 f2 k2 s2 z2
    have eO := exO_0 (o := o) r0
    refine ⟨f2.sh hP1.1, _, rfl, fun _ => ?_, fun c => absurd c (by decide)⟩
    refine La_addStep_ok ha hP2.1 s2 (by have := hP2.2.2.2.1; have := hy.2.1; have := hP2.2.2.2.2.2; omega) (fun σ3 f3 s3 => ⟨f3.sh hP2.1, rfl, ?_⟩)
    refine h1 (by rw [eO]) σ3 (((FkA f1).tr f2).tr (FkE f3)) ?_
    rw [eO]
    refine ⟨f3.sh hP2.1, k2.ea ha f3, ?_, ?_, f39e ha f3 z2, hy.2.1⟩
    · show CS σ3 a0 (S ++ ((ex tp w n m e (i + 1)).2.2 ++ [o]))
      rw [← List.append_assoc]
      exact s3
    · have := (hy.o (o := o)).1.2.2 (by rw [eO])
      rw [eO] at this
      have h15 := hP.2.2.2.1
      show (S ++ ((ex tp w n m e (i + 1)).2.2 ++ [o])).length ≤ 15 + (ex tp w n m e (i + 1)).2.1
      rw [List.length_append]
      have this : ((ex tp w n m e (i + 1)).2.2 ++ [o]).length + i ≤ (ex tp w n m e (i + 1)).2.1 := this
      omega
  · have eO := exO_n (o := o) r0
    refine ⟨f2.sh hP1.1, _, rfl, fun c => absurd rfl c, fun _ => h0 (by rw [eO]; exact r0) σ2 ?_⟩
    rw [eO]
    exact Or.inr ⟨r0, rfl, (FkA f1).tr f2, z2⟩
theorem La_seq {X : q_M} {m m2 k e : Nat} (hM : IsM tp M) (hP : LaPre tp M a0 σ S i) (hy : oky M i (ex tp w n m e i)) : True := trivial
end CEXPR
