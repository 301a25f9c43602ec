section CEXPR2
variable {G : q_G} {d : Nat} {σ σ' σ1 : q_S} {Q : Option Value → q_S → Prop} {tp : List Nat} {i w M a0 n : Nat} {S : List Int32}
theorem La_first {X Xs : q_M} {ms ml k ks e : Nat} {tl : List (Option Value)} (hM : IsM tp M) (hS : LaC G tp w M a0 Xs ms ks n) (hL : LaL G tp w M a0 X ml k tl n) (hy : oky M i (ex tp w n ms e i)) (hn : 8 * (M - i) + ks ≤ n) (hks : 1 ≤ ks) (he : e ≤ 5) (hd : 5 * (5 - e) + 7 + ks ≤ d) (hd2 : 5 * (5 - e) + 7 + k ≤ d + 1) (hP : LaPre tp M a0 σ S i) (hv : ∀ v σ', LaV tp a0 σ S (exJ (ex tp w n ms e i) (fun j => ex tp w n ml e j)) v σ' → Q (some (.int v)) σ') :
    q_Call G d 0 0 Xs [.ref a0, .ref 3, .int (nI w), .int (nI e)] σ (q_ri (fun x4 σ2 => ((¬ x4 = 0 → q_At G X (d + 1) 0 0 15 (some (.ref a0) :: some (.ref 3) :: some (.int (nI w)) :: some (.int (nI e)) :: some (.int 0) :: tl) [] σ2 Q) ∧ (x4 = 0 → Q (some (.int 0)) σ2)))) := by
  refine hS e i σ S d _ hn he hd hP (fun v σ1 hV => ?_)
  rcases hV with ⟨r0, rfl, f1, k1, s1, z1⟩ | ⟨r0, rfl, f1, z1⟩
  · have hP1 := hP.next hM hy.1 r0 f1 k1 s1 z1
    have h2 := hy.2 r0
    have h3 := hy.1.2.1
    exact ⟨f1.sh hP.1, _, rfl, fun _ => hL e _ 0 σ1 _ (d + 1) Q (by omega) (Nat.zero_le _) he hd2 hP1 (fun v σ' hV => hv v σ' (LaV.join r0 f1 rfl hV)), fun c => absurd c (by decide)⟩
  · exact ⟨f1.sh hP.1, _, rfl, fun c => absurd rfl c, fun _ => hv _ _ (LaV.fail r0 (Or.inr ⟨r0, rfl, f1, z1⟩))⟩
theorem LaV.nil (hP : LaPre tp M a0 σ S i) : LaV tp a0 σ S (0, i, []) 1 σ := by
  refine Or.inl ⟨rfl, rfl, Fk.rf, hP.2.1, ?_, hP.2.2.2.2.1⟩
  show CS σ a0 (S ++ [])
  rw [List.append_nil]
  exact hP.2.2.1
theorem La_chainC (hM : IsM tp M) (ha : q_isLa a0) (hT : LaC G tp w M a0 X_La_readTest 2 4 n) (hL : LaL G tp w M a0 X_La_readChain 1 5 [none] n) : LaC G tp w M a0 X_La_readChain 0 5 (n + 1) := by
  intro e i σ S dd Q hn he hd hP hv
  obtain ⟨d, rfl⟩ : ∃ d', dd = d' + 1 := ⟨dd - 1, by omega⟩
  refine q_cii (Pp := LaV tp a0 σ S (ex tp w (n + 1) 0 e i)) (by decide +kernel) (Nat.le_of_ble_eq_true rfl) (fun Q hv => ?_) hv
  rw [ex0] at hv
  exact v_La_readChain_0 ha hP.1 (La_first hM hT hL (ex_ok hM n e i hP.2.2.2.2.2).2.2.1 (by omega) (by decide) he (by omega) (by omega) hP hv)
theorem La_sumC (hM : IsM tp M) (ha : q_isLa a0) (hT : LaC G tp w M a0 X_La_readProduct 5 2 n) (hL : LaL G tp w M a0 X_La_readSum 4 3 [none] n) : LaC G tp w M a0 X_La_readSum 3 3 (n + 1) := by
  intro e i σ S dd Q hn he hd hP hv
  obtain ⟨d, rfl⟩ : ∃ d', dd = d' + 1 := ⟨dd - 1, by omega⟩
  refine q_cii (Pp := LaV tp a0 σ S (ex tp w (n + 1) 3 e i)) (by decide +kernel) (Nat.le_of_ble_eq_true rfl) (fun Q hv => ?_) hv
  rw [ex3] at hv
  exact v_La_readSum_0 ha hP.1 (La_first hM hT hL (ex_ok hM n e i hP.2.2.2.2.2).2.2.2.2.2.1 (by omega) (by decide) he (by omega) (by omega) hP hv)
theorem La_prodC (hM : IsM tp M) (ha : q_isLa a0) (hT : LaC G tp w M a0 X_La_readPart 7 1 n) (hL : LaL G tp w M a0 X_La_readProduct 6 2 [] n) : LaC G tp w M a0 X_La_readProduct 5 2 (n + 1) := by
  intro e i σ S dd Q hn he hd hP hv
  obtain ⟨d, rfl⟩ : ∃ d', dd = d' + 1 := ⟨dd - 1, by omega⟩
  refine q_cii (Pp := LaV tp a0 σ S (ex tp w (n + 1) 5 e i)) (by decide +kernel) (Nat.le_of_ble_eq_true rfl) (fun Q hv => ?_) hv
  rw [ex5] at hv
  exact v_La_readProduct_0 ha hP.1 (La_first hM hT hL (ex_ok hM n e i hP.2.2.2.2.2).2.2.2.2.2.2.2 (by omega) (by decide) he (by omega) (by omega) hP hv)
theorem tk_M {w : Nat} (hM : IsM tp M) (hi : ¬ i < M) (h2 : i ≤ M) : ¬ isW (tk tp i) w = true := fun z => hi (tk_w hM h2 z)
theorem tk_Ms {w : Nat} (hM : IsM tp M) (hi : ¬ i < M) (h2 : i ≤ M) : ¬ isS (tk tp i) w = true := fun z => hi (tk_s hM h2 z)
theorem La_chainL (hM : IsM tp M) (hM1 : M ≤ 1000) (hw : WTp tp) (ha : q_isLa a0) (hT : LaC G tp w M a0 X_La_readTest 2 4 n) (hL : LaL G tp w M a0 X_La_readChain 1 5 [none] n) : LaL G tp w M a0 X_La_readChain 1 5 [none] (n + 1) := by
  intro e i c σ S dd Q hn hc he hd hP hv
  obtain ⟨d, rfl⟩ : ∃ d', dd = d' + 1 := ⟨dd - 1, by omega⟩
  have hi := hP.2.2.2.2.2
  have hs := hP.1
  rw [ex1] at hv
  -- an operator
  have op : ∀ o : Int32, i < M → (∀ v σ', LaV tp a0 σ S (exJ (exO (ex tp w n 2 e (i + 1)) o) (fun j => ex tp w n 1 e j)) v σ' → Q (some (.int v)) σ') → q_Call G d 0 0 X_Tk_advance [.ref 3] σ (q_rv (fun σ16 => q_Call G d 0 0 X_La_readTest [.ref a0, .ref 3, .int (nI w), .int (nI e)] σ16 (q_ri (fun x21 σ19 => ((¬ x21 = 0 → q_Call G d 0 0 X_La_addStep [.ref a0, .int o] σ19 (q_rv (fun σ25 => q_At G X_La_readChain (d + 1) 0 0 15 [some (.ref a0), some (.ref 3), some (.int (nI w)), some (.int (nI e)), some (.int (nI c + 1)), none] [] σ25 Q))) ∧ (x21 = 0 → Q (some (.int 0)) σ19)))))) := fun o him hv => by
    have hy := (ex_ok (w := w) hM n e (i + 1) him).2.2.1
    have hy2 := (hy.1.o (o := o))
    refine La_op hM hM1 hw ha hT hy.1 (by omega) he (by omega) hP him (fun r0 σ1 f1 hP1 => ?_) (fun r0 σ1 hV => hv _ _ (LaV.fail r0 hV))
    have h2 := hy2.2 r0
    have h3 := hy2.1.2.1
    rw [nI_1]
    exact hL e _ (c + 1) σ1 _ (d + 1) Q (by omega) (by omega) he hd hP1 (fun v σ' hV => hv v σ' (LaV.join r0 f1 rfl hV))
  refine v_La_readChain_15 ha hs ⟨fun c0 => ?_, fun _ => ?_⟩
  · have : ¬ c < 1000 := fun z => nI_ge (a := c) (b := 1000) z (by decide) c0
    rw [if_neg (tk_M hM (by omega) hi), if_neg (tk_M hM (by omega) hi)] at hv
    exact hv _ _ (LaV.nil hP)
  · refine Tk_isWord_ok (w := 23) (by decide) hs hP.2.1 ⟨hs, _, rfl, fun c1 => ?_, fun c1 => ?_⟩
    · have c1 : isW (tk tp i) 23 = true := Classical.byContradiction (fun z => c1 (by rw [if_neg z]))
      rw [if_pos c1] at hv
      refine Tk_isWord_ok (w := 23) (by decide) hs hP.2.1 ⟨hs, _, rfl, ?_⟩
      rw [if_pos c1]
      exact op (-5) (tk_w hM hi c1) hv
    · have c1 : ¬ isW (tk tp i) 23 = true := fun z => by rw [if_pos z] at c1; exact absurd c1 (by decide)
      rw [if_neg c1] at hv
      refine Tk_isWord_ok (w := 24) (by decide) hs hP.2.1 ⟨hs, _, rfl, fun c2 => ?_, fun c2 => ?_⟩
      · have c2 : ¬ isW (tk tp i) 24 = true := fun z => by rw [if_pos z] at c2; exact absurd c2 (by decide)
        rw [if_neg c2] at hv
        exact hv _ _ (LaV.nil hP)
      · have c2 : isW (tk tp i) 24 = true := Classical.byContradiction (fun z => c2 (by rw [if_neg z]))
        rw [if_pos c2] at hv
        refine Tk_isWord_ok (w := 23) (by decide) hs hP.2.1 ⟨hs, _, rfl, ?_⟩
        rw [if_neg c1]
        exact op (-6) (tk_w hM hi c2) hv
theorem La_sumL (hM : IsM tp M) (hM1 : M ≤ 1000) (hw : WTp tp) (ha : q_isLa a0) (hT : LaC G tp w M a0 X_La_readProduct 5 2 n) (hL : LaL G tp w M a0 X_La_readSum 4 3 [none] n) : LaL G tp w M a0 X_La_readSum 4 3 [none] (n + 1) := by
  intro e i c σ S dd Q hn hc he hd hP hv
  obtain ⟨d, rfl⟩ : ∃ d', dd = d' + 1 := ⟨dd - 1, by omega⟩
  have hi := hP.2.2.2.2.2
  have hs := hP.1
  rw [ex4] at hv
  have op : ∀ o : Int32, i < M → (∀ v σ', LaV tp a0 σ S (exJ (exO (ex tp w n 5 e (i + 1)) o) (fun j => ex tp w n 4 e j)) v σ' → Q (some (.int v)) σ') → q_Call G d 0 0 X_Tk_advance [.ref 3] σ (q_rv (fun σ16 => q_Call G d 0 0 X_La_readProduct [.ref a0, .ref 3, .int (nI w), .int (nI e)] σ16 (q_ri (fun x21 σ19 => ((¬ x21 = 0 → q_Call G d 0 0 X_La_addStep [.ref a0, .int o] σ19 (q_rv (fun σ25 => q_At G X_La_readSum (d + 1) 0 0 15 [some (.ref a0), some (.ref 3), some (.int (nI w)), some (.int (nI e)), some (.int (nI c + 1)), none] [] σ25 Q))) ∧ (x21 = 0 → Q (some (.int 0)) σ19)))))) := fun o him hv => by
    have hy := (ex_ok (w := w) hM n e (i + 1) him).2.2.2.2.2.1
    have hy2 := (hy.1.o (o := o))
    refine La_op hM hM1 hw ha hT hy.1 (by omega) he (by omega) hP him (fun r0 σ1 f1 hP1 => ?_) (fun r0 σ1 hV => hv _ _ (LaV.fail r0 hV))
    have h2 := hy2.2 r0
    have h3 := hy2.1.2.1
    rw [nI_1]
    exact hL e _ (c + 1) σ1 _ (d + 1) Q (by omega) (by omega) he hd hP1 (fun v σ' hV => hv v σ' (LaV.join r0 f1 rfl hV))
  refine v_La_readSum_15 ha hs ⟨fun c0 => ?_, fun _ => ?_⟩
  · have : ¬ c < 1000 := fun z => nI_ge (a := c) (b := 1000) z (by decide) c0
    rw [if_neg (tk_Ms hM (by omega) hi), if_neg (tk_Ms hM (by omega) hi)] at hv
    exact hv _ _ (LaV.nil hP)
  · refine Tk_isSign_ok (c := 43) (by decide) hs hw hP.2.1 ⟨hs, _, rfl, fun c1 => ?_, fun c1 => ?_⟩
    · have c1 : isS (tk tp i) 43 = true := Classical.byContradiction (fun z => c1 (by rw [if_neg z]))
      rw [if_pos c1] at hv
      refine Tk_isSign_ok (c := 43) (by decide) hs hw hP.2.1 ⟨hs, _, rfl, ?_⟩
      rw [if_pos c1]
      exact op (-9) (tk_s hM hi c1) hv
    · have c1 : ¬ isS (tk tp i) 43 = true := fun z => by rw [if_pos z] at c1; exact absurd c1 (by decide)
      rw [if_neg c1] at hv
      refine Tk_isSign_ok (c := 45) (by decide) hs hw hP.2.1 ⟨hs, _, rfl, fun c2 => ?_, fun c2 => ?_⟩
      · have c2 : ¬ isS (tk tp i) 45 = true := fun z => by rw [if_pos z] at c2; exact absurd c2 (by decide)
        rw [if_neg c2] at hv
        exact hv _ _ (LaV.nil hP)
      · have c2 : isS (tk tp i) 45 = true := Classical.byContradiction (fun z => c2 (by rw [if_neg z]))
        rw [if_pos c2] at hv
        refine Tk_isSign_ok (c := 43) (by decide) hs hw hP.2.1 ⟨hs, _, rfl, ?_⟩
        rw [if_neg c1]
        exact op (-10) (tk_s hM hi c2) hv
theorem La_prodL (hM : IsM tp M) (hM1 : M ≤ 1000) (hw : WTp tp) (ha : q_isLa a0) (hT : LaC G tp w M a0 X_La_readPart 7 1 n) (hL : LaL G tp w M a0 X_La_readProduct 6 2 [] n) : LaL G tp w M a0 X_La_readProduct 6 2 [] (n + 1) := by
  intro e i c σ S dd Q hn hc he hd hP hv
  obtain ⟨d, rfl⟩ : ∃ d', dd = d' + 1 := ⟨dd - 1, by omega⟩
  have hi := hP.2.2.2.2.2
  have hs := hP.1
  rw [ex6] at hv
  have op : ∀ o : Int32, i < M → (∀ v σ', LaV tp a0 σ S (exJ (exO (ex tp w n 7 e (i + 1)) o) (fun j => ex tp w n 6 e j)) v σ' → Q (some (.int v)) σ') → q_Call G d 0 0 X_Tk_advance [.ref 3] σ (q_rv (fun σ16 => q_Call G d 0 0 X_La_readPart [.ref a0, .ref 3, .int (nI w), .int (nI e)] σ16 (q_ri (fun x21 σ19 => ((¬ x21 = 0 → q_Call G d 0 0 X_La_addStep [.ref a0, .int o] σ19 (q_rv (fun σ25 => q_At G X_La_readProduct (d + 1) 0 0 15 [some (.ref a0), some (.ref 3), some (.int (nI w)), some (.int (nI e)), some (.int (nI c + 1))] [] σ25 Q))) ∧ (x21 = 0 → Q (some (.int 0)) σ19)))))) := fun o him hv => by
    have hy := (ex_ok (w := w) hM n e (i + 1) him).2.2.2.2.2.2.2
    have hy2 := (hy.1.o (o := o))
    refine La_op hM hM1 hw ha hT hy.1 (by omega) he (by omega) hP him (fun r0 σ1 f1 hP1 => ?_) (fun r0 σ1 hV => hv _ _ (LaV.fail r0 hV))
    have h2 := hy2.2 r0
    have h3 := hy2.1.2.1
    rw [nI_1]
    exact hL e _ (c + 1) σ1 _ (d + 1) Q (by omega) (by omega) he hd hP1 (fun v σ' hV => hv v σ' (LaV.join r0 f1 rfl hV))
  refine v_La_readProduct_15 ha hs ⟨fun c0 => ?_, fun _ => ?_⟩
  · have : ¬ c < 1000 := fun z => nI_ge (a := c) (b := 1000) z (by decide) c0
    rw [if_neg (tk_Ms hM (by omega) hi)] at hv
    exact hv _ _ (LaV.nil hP)
  · refine Tk_isSign_ok (c := 42) (by decide) hs hw hP.2.1 ⟨hs, _, rfl, fun c1 => ?_, fun c1 => ?_⟩
    · have c1 : ¬ isS (tk tp i) 42 = true := fun z => by rw [if_pos z] at c1; exact absurd c1 (by decide)
      rw [if_neg c1] at hv
      exact hv _ _ (LaV.nil hP)
    · have c1 : isS (tk tp i) 42 = true := Classical.byContradiction (fun z => c1 (by rw [if_neg z]))
      rw [if_pos c1] at hv
      exact op (-11) (tk_s hM hi c1) hv
theorem La_testC (hM : IsM tp M) (hM1 : M ≤ 1000) (hw : WTp tp) (ha : q_isLa a0) (hS : LaC G tp w M a0 X_La_readSum 3 3 n) : LaC G tp w M a0 X_La_readTest 2 4 (n + 1) := by
  intro e i σ S dd Q hn he hd hP hv
  obtain ⟨d, rfl⟩ : ∃ d', dd = d' + 1 := ⟨dd - 1, by omega⟩
  refine q_cii (Pp := LaV tp a0 σ S (ex tp w (n + 1) 2 e i)) (by decide +kernel) (Nat.le_of_ble_eq_true rfl) (fun Q hv => ?_) hv
  rw [ex2] at hv
  have hy := (ex_ok (w := w) hM n e i hP.2.2.2.2.2).2.2.2.1
  refine v_La_readTest_0 ha hP.1 (hS e i σ S d _ (by omega) he (by omega) hP (fun v σ1 hV => ?_))
  rcases hV with ⟨r0, rfl, f1, k1, s1, z1⟩ | ⟨r0, rfl, f1, z1⟩
  · have hP1 := hP.next hM hy.1 r0 f1 k1 s1 z1
    have h2 := hy.2 r0
    have hs1 := hP1.1
    have h3 := hy.1.2.1
    have hv1 : ∀ r2, (if isS (tk tp (ex tp w n 3 e i).2.1) 60 = true then exO (ex tp w n 3 e ((ex tp w n 3 e i).2.1 + 1)) (-7) else if isS (tk tp (ex tp w n 3 e i).2.1) 61 = true then exO (ex tp w n 3 e ((ex tp w n 3 e i).2.1 + 1)) (-8) else (0, (ex tp w n 3 e i).2.1, [])) = r2 → ∀ v σ', LaV tp a0 σ1 (S ++ (ex tp w n 3 e i).2.2) r2 v σ' → Q (some (.int v)) σ' := fun r2 e2 v σ' hV => hv v σ' (LaV.join r0 f1 e2 hV)
    have op : ∀ o : Int32, (ex tp w n 3 e i).2.1 < M → (∀ v σ', LaV tp a0 σ1 (S ++ (ex tp w n 3 e i).2.2) (exO (ex tp w n 3 e ((ex tp w n 3 e i).2.1 + 1)) o) v σ' → Q (some (.int v)) σ') → q_Call G d 0 0 X_Tk_advance [.ref 3] σ1 (q_rv (fun σ16 => q_Call G d 0 0 X_La_readSum [.ref a0, .ref 3, .int (nI w), .int (nI e)] σ16 (q_ri (fun x21 σ19 => ((¬ x21 = 0 → q_Call G d 0 0 X_La_addStep [.ref a0, .int o] σ19 (q_rv (fun σ25 => Q (some (.int 1)) σ25))) ∧ (x21 = 0 → Q (some (.int 0)) σ19)))))) := fun o him hv => by
      have hy3 := (ex_ok (w := w) hM n e ((ex tp w n 3 e i).2.1 + 1) him).2.2.2.1
      exact La_op hM hM1 hw ha hS hy3.1 (by omega) he (by omega) hP1 him (fun r0 σ2 f2 hP2 => hv _ _ (Or.inl ⟨r0, rfl, f2, hP2.2.1, hP2.2.2.1, hP2.2.2.2.2.1⟩)) (fun r0 σ2 hV => hv _ _ hV)
    refine ⟨hs1, _, rfl, fun _ => ?_, fun c => absurd c (by decide)⟩
    refine Tk_isSign_ok (c := 60) (by decide) hs1 hw k1 ⟨hs1, _, rfl, fun c1 => ?_, fun c1 => ?_⟩
    · have c1 : isS (tk tp (ex tp w n 3 e i).2.1) 60 = true := Classical.byContradiction (fun z => c1 (by rw [if_neg z]))
      refine Tk_isSign_ok (c := 60) (by decide) hs1 hw k1 ⟨hs1, _, rfl, ?_⟩
      rw [if_pos c1]
      exact op (-7) (tk_s hM h3 c1) (hv1 _ (if_pos c1))
    · have c1 : ¬ isS (tk tp (ex tp w n 3 e i).2.1) 60 = true := fun z => by rw [if_pos z] at c1; exact absurd c1 (by decide)
      refine Tk_isSign_ok (c := 61) (by decide) hs1 hw k1 ⟨hs1, _, rfl, fun c2 => ?_, fun c2 => ?_⟩
      · have c2 : isS (tk tp (ex tp w n 3 e i).2.1) 61 = true := Classical.byContradiction (fun z => c2 (by rw [if_neg z]))
        refine Tk_isSign_ok (c := 60) (by decide) hs1 hw k1 ⟨hs1, _, rfl, ?_⟩
        rw [if_neg c1]
        exact op (-8) (tk_s hM h3 c2) (hv1 _ (by rw [if_neg c1, if_pos c2]))
      · have c2 : ¬ isS (tk tp (ex tp w n 3 e i).2.1) 61 = true := fun z => by rw [if_pos z] at c2; exact absurd c2 (by decide)
        exact hv1 _ (by rw [if_neg c1, if_neg c2]) _ _ (LaV.nil hP1)
  · exact ⟨f1.sh hP.1, _, rfl, fun c => absurd rfl c, fun _ => hv _ _ (LaV.fail r0 (Or.inr ⟨r0, rfl, f1, z1⟩))⟩
end CEXPR2
