-- laws read by the reference
def SMx (c : Nat) : Nat → Nat → Prop := fun a i => ((a = 166 ∨ a = 167) ∧ 1100 + c ≤ i) ∨ (a = 159 ∧ (i = 7 ∨ i = 8 ∨ i = 13))
def ME (σ : q_S) (w a : Nat) (L : List Int32) : Prop := ∀ j, j < L.length → q_I σ 166 (1100 + (a + j)) = opc (L.getD j 0) ∧ (0 ≤ L.getD j 0 → q_I σ 167 (1100 + (a + j)) = L.getD j 0) ∧ (¬ 0 ≤ L.getD j 0 → -3 ≤ L.getD j 0 → q_I σ 167 (1100 + (a + j)) = nI (fix w (L.getD j 0)))
def msk (w : Nat) : Int32 := if w = 0 then 7 else if w = 1 then 56 else 200
def MxP (tp : List Nat) (M w : Nat) (σ : q_S) (c i : Nat) : Prop := q_Sh σ ∧ MK σ tp M i ∧ q_I σ 159 13 = nI c ∧ c ≤ i ∧ q_I σ 159 20 = msk w
def MxV (tp : List Nat) (M w : Nat) (σ : q_S) (c i : Nat) (r : q_xr) (σ' : q_S) : Prop := Fr (SMx c) noL σ σ' ∧ ((r.1 = 0 ∧ MK σ' tp M r.2.1 ∧ q_I σ' 159 13 = nI (c + r.2.2.length) ∧ ME σ' w c r.2.2) ∨ (r.1 ≠ 0 ∧ FX σ' (nI (flt tp r.1 r.2.1)) ∧ ∃ c', c ≤ c' ∧ c' + i ≤ c + r.2.1 ∧ q_I σ' 159 13 = nI c'))
def MxC (G : q_G) (tp : List Nat) (w M : Nat) (X : q_M) (m k n : Nat) : Prop := ∀ (e i c : Nat) (σ : q_S) (dd : Nat) (Q : Option Value → q_S → Prop), 8 * (M - i) + k ≤ n → e ≤ 5 → 5 * (5 - e) + 7 + k ≤ dd → MxP tp M w σ c i → (∀ σ', MxV tp M w σ c i (ex tp w n m e i) σ' → Q none σ') → q_Call G dd 0 0 X [.ref 159, .int (nI e)] σ Q
def MxL (G : q_G) (tp : List Nat) (w M : Nat) (X : q_M) (m k : Nat) (tl : List (Option Value)) (n : Nat) : Prop := ∀ (e i c : Nat) (σ : q_S) (dd : Nat) (Q : Option Value → q_S → Prop), 8 * (M - i) + 1 ≤ n → e ≤ 5 → 5 * (5 - e) + 7 + k ≤ dd → MxP tp M w σ c i → (∀ σ', MxV tp M w σ c i (ex tp w n m e i) σ' → Q none σ') → q_At G X dd 0 0 5 (some (.ref 159) :: some (.int (nI e)) :: tl) [] σ Q
def MxX (G : q_G) (X : q_M) (tl : List (Option Value)) : Prop := ∀ (e : Nat) (σ : q_S) (v : Int32) (dd : Nat) (Q : Option Value → q_S → Prop), 3 ≤ dd → q_Sh σ → FX σ v → Q none σ → q_At G X dd 0 0 5 (some (.ref 159) :: some (.int (nI e)) :: tl) [] σ Q
section MEXPR
variable {G : q_G} {d : Nat} {σ σ' σ1 : q_S} {Q : Option Value → q_S → Prop} {tp : List Nat} {i w M n c : Nat}
theorem M_emit_ok {a b : Int32} (hs : q_Sh σ) (hc : q_I σ 159 13 = nI c) (hl : c < 1100) (hq : Q none (q_setI (q_setI (q_setI σ 166 (1100 + c) a) 167 (1100 + c) b) 159 13 (nI (c + 1)))) : q_Call G d 0 0 X_M_emit [.ref 159, .int a, .int b] σ Q := by
  refine q_cv0 (P := fun σ' => σ' = q_setI (q_setI (q_setI σ 166 (1100 + c) a) 167 (1100 + c) b) 159 13 (nI (c + 1))) (by decide +kernel) (Nat.le_of_ble_eq_true rfl) (fun Q hq => ?_) (fun σ' h => by rw [h]; exact hq)
  refine v_M_emit_0 hs ⟨1100 + c, by rw [hc, show (1100 : Int32) = nI 1100 from rfl, nI_add], by omega, 1100 + c, by rw [q_I_ne (by omega), hc, show (1100 : Int32) = nI 1100 from rfl, nI_add], by omega, hq _ ?_⟩
  rw [q_I_ne (by omega), q_I_ne (by omega), hc, nI_1]
theorem ME.fr {SI SL : Nat → Nat → Prop} {a : Nat} {L : List Int32} (h : ME σ w a L) (hf : Fr SI SL σ σ') (hI : ∀ b j, SI b j → ¬ ((b = 166 ∨ b = 167) ∧ 1100 + a ≤ j ∧ j < 1100 + a + L.length)) : ME σ' w a L := fun j hj => by
  rw [hf.2.2.1 _ _ (fun z => hI _ _ z (by omega)), hf.2.2.1 _ _ (fun z => hI _ _ z (by omega))]
  exact h j hj
theorem ME.app {a : Nat} {L L' : List Int32} (h : ME σ w a L) (h' : ME σ w (a + L.length) L') : ME σ w a (L ++ L') := fun j hj => by
  by_cases c : j < L.length
  · rw [getD_apL c]; exact h j c
  · have e : j = L.length + (j - L.length) := by omega
    have := h' (j - L.length) (by rw [List.length_append] at hj; omega)
    rw [e, getD_apR, show a + (L.length + (j - L.length)) = a + L.length + (j - L.length) by omega]
    exact this
theorem ME.nil {a : Nat} : ME σ w a [] := fun j hj => absurd hj (Nat.not_lt_zero j)
theorem SMx_mono {c c' : Nat} (h : c ≤ c') (hf : Fr (SMx c') noL σ σ') : Fr (SMx c) noL σ σ' := hf.mono (fun a j z => by unfold SMx at z ⊢; omega) (fun _ _ z => z)
theorem S78_x (hf : Fr S78 noL σ σ') : Fr (SMx c) noL σ σ' := hf.mono (fun a j z => by unfold S78 at z; unfold SMx; omega) (fun _ _ z => z)
theorem MxP.go {j c' : Nat} (hP : MxP tp M w σ c i) (hf : Fr (SMx c) noL σ σ') (hK : MK σ' tp M j) (h13 : q_I σ' 159 13 = nI c') (hc : c' ≤ j) : MxP tp M w σ' c' j := ⟨hf.sh hP.1, hK, h13, hc, by rw [hf.2.2.1 _ _ (fun z => by unfold SMx at z; omega)]; exact hP.2.2.2.2⟩
theorem MxP.nx {j : Nat} (hP : MxP tp M w σ c i) (hj : i ≤ j) (hf : Fr S78 noL σ σ') (hK : MK σ' tp M j) : MxP tp M w σ' c j := hP.go (S78_x hf) hK (by rw [hf.2.2.1 _ _ (fun z => by unfold S78 at z; omega)]; exact hP.2.2.1) (by have := hP.2.2.2.1; omega)
theorem MxV.join {r r2 : q_xr} {k : Nat → q_xr} (hx : okx M i r) (h0 : r.1 = 0) (hf : Fr (SMx c) noL σ σ1) (hE : ME σ1 w c r.2.2) (e : k r.2.1 = r2) (hV : MxV tp M w σ1 (c + r.2.2.length) r.2.1 r2 σ') : MxV tp M w σ c i (exJ r k) σ' := by
  subst e
  rw [exJ_0 h0]
  have hl := hx.2.2 h0
  have h1 := hx.1
  refine ⟨hf.tr (SMx_mono (by omega) hV.1), ?_⟩
  rcases hV.2 with ⟨a1, a2, a3, a4⟩ | ⟨a1, a2, c', a3, a4, a5⟩
  · refine Or.inl ⟨a1, a2, ?_, ?_⟩
    · rw [a3]
      show _ = nI (c + (r.2.2 ++ _).length)
      rw [List.length_append, Nat.add_assoc]
    · exact (hE.fr hV.1 (fun b j z => by unfold SMx at z; omega)).app a4
  · exact Or.inr ⟨a1, a2, c', by omega, by show c' + i ≤ c + (k r.2.1).2.1; omega, a5⟩
theorem MxV.fail {r : q_xr} {k : Nat → q_xr} (h0 : r.1 ≠ 0) (hV : MxV tp M w σ c i r σ') : MxV tp M w σ c i (exJ r k) σ' := by rw [exJ_n h0]; exact hV
theorem MxV.nil (hP : MxP tp M w σ c i) : MxV tp M w σ c i (0, i, []) σ := ⟨Fr.rf, Or.inl ⟨rfl, hP.2.1, hP.2.2.1, ME.nil⟩⟩
theorem MxV.pre {j : Nat} {r : q_xr} (hf : Fr S78 noL σ σ1) (hj : i ≤ j) (hV : MxV tp M w σ1 c j r σ') : MxV tp M w σ c i r σ' := by
  refine ⟨(S78_x hf).tr hV.1, ?_⟩
  rcases hV.2 with a | ⟨a1, a2, c', a3, a4, a5⟩
  · exact Or.inl a
  · exact Or.inr ⟨a1, a2, c', a3, by omega, a5⟩
-- a step told by emit
theorem MK.emit {a b : Int32} {c j : Nat} (h : MK σ tp M j) : MK (q_setI (q_setI (q_setI σ 166 (1100 + c) a) 167 (1100 + c) b) 159 13 (nI (c + 1))) tp M j := by
  have f : Fr (fun x y => x = 166 ∨ x = 167 ∨ (x = 159 ∧ y = 13)) noL σ (q_setI (q_setI (q_setI σ 166 (1100 + c) a) 167 (1100 + c) b) 159 13 (nI (c + 1))) := ((Fr.setI (Or.inl rfl)).tr (Fr.setI (Or.inr (Or.inl rfl)))).tr (Fr.setI (Or.inr (Or.inr ⟨rfl, rfl⟩)))
  exact h.fr f (fun x y z => by omega) (fun _ _ z => z.elim)
theorem FX.emit {a b v : Int32} {c : Nat} (h : FX σ v) : FX (q_setI (q_setI (q_setI σ 166 (1100 + c) a) 167 (1100 + c) b) 159 13 (nI (c + 1))) v := by
  have f : Fr (fun x y => x = 166 ∨ x = 167 ∨ (x = 159 ∧ y = 13)) noL σ (q_setI (q_setI (q_setI σ 166 (1100 + c) a) 167 (1100 + c) b) 159 13 (nI (c + 1))) := ((Fr.setI (Or.inl rfl)).tr (Fr.setI (Or.inr (Or.inl rfl)))).tr (Fr.setI (Or.inr (Or.inr ⟨rfl, rfl⟩)))
  exact h.fr f (fun x y z => by omega)
theorem Fr.emit {a b : Int32} {c c0 : Nat} (h : c0 ≤ c) : Fr (SMx c0) noL σ (q_setI (q_setI (q_setI σ 166 (1100 + c) a) 167 (1100 + c) b) 159 13 (nI (c + 1))) := ((Fr.setI (Or.inl ⟨Or.inl rfl, by omega⟩)).tr (Fr.setI (Or.inl ⟨Or.inr rfl, by omega⟩))).tr (Fr.setI (Or.inr ⟨rfl, Or.inr (Or.inr rfl)⟩))
theorem ME.emit {a b o : Int32} {c : Nat} (h1 : a = opc o) (h2 : 0 ≤ o → b = o) (h3 : ¬ 0 ≤ o → -3 ≤ o → b = nI (fix w o)) : ME (q_setI (q_setI (q_setI σ 166 (1100 + c) a) 167 (1100 + c) b) 159 13 (nI (c + 1))) w c [o] := fun j hj => by
  have e : j = 0 := by rw [List.length_singleton] at hj; omega
  subst e
  have e1 : q_I (q_setI (q_setI (q_setI σ 166 (1100 + c) a) 167 (1100 + c) b) 159 13 (nI (c + 1))) 166 (1100 + c) = a := by rw [q_I_ne (by omega), q_I_ne (by omega), q_I_eq]
  have e2 : q_I (q_setI (q_setI (q_setI σ 166 (1100 + c) a) 167 (1100 + c) b) 159 13 (nI (c + 1))) 167 (1100 + c) = b := by rw [q_I_ne (by omega), q_I_eq]
  exact ⟨e1.trans h1, fun z => e2.trans (h2 z), fun z y => e2.trans (h3 z y)⟩
theorem M_op {Xs : q_M} {ms ks e : Nat} {o oc z : Int32} {K : q_S → Prop} (hS : MxC G tp w M Xs ms ks n) (hx : okx M (i + 1) (ex tp w n ms e (i + 1))) (h1 : oc = opc o) (h2 : ¬ 0 ≤ o) (h3 : ¬ -3 ≤ o) (hP : MxP tp M w σ c i) (f1 : Fr S78 noL σ σ1) (k1 : MK σ1 tp M (i + 1)) (he : e ≤ 5) (hn : 8 * (M - (i + 1)) + ks ≤ n) (hd : 5 * (5 - e) + 7 + ks ≤ d) (hK : ∀ σ', q_Sh σ' → MxV tp M w σ c i (exO (ex tp w n ms e (i + 1)) o) σ' → K σ') :
    q_Call G d 0 0 Xs [.ref 159, .int (nI e)] σ1 (q_rv (fun σ12 => q_Call G d 0 0 X_M_emit [.ref 159, .int oc, .int z] σ12 (q_rv (fun σ16 => K σ16)))) := by
  have hP1 := hP.nx (j := i + 1) (by omega) f1 k1
  have hci := hP.2.2.2.1
  have hM := k1.2.2.2
  obtain ⟨x1, x2, x3⟩ := hx
  refine hS e (i + 1) c σ1 d _ hn he hd hP1 (fun σ2 hV => ⟨hV.1.sh hP1.1, rfl, ?_⟩)
  have hs2 := hV.1.sh hP1.1
  have F2 : Fr (SMx c) noL σ σ2 := (S78_x f1).tr hV.1
  rcases hV.2 with ⟨a1, a2, a3, a4⟩ | ⟨a1, a2, c', a3, a4, a5⟩
  · have hl := x3 a1
    refine M_emit_ok hs2 a3 (by omega) ⟨(Fr.emit (Nat.le_refl _)).sh hs2, rfl, hK _ ((Fr.emit (Nat.le_refl _)).sh hs2) ?_⟩
    rw [exO_0 a1]
    refine ⟨F2.tr (Fr.emit (by omega)), Or.inl ⟨rfl, a2.emit, ?_, ?_⟩⟩
    · rw [q_I_eq]
      show _ = nI (c + (_ ++ [o]).length)
      rw [List.length_append, List.length_singleton, Nat.add_assoc]
    · exact (a4.fr (Fr.emit (c0 := c + (ex tp w n ms e (i + 1)).2.2.length) (Nat.le_refl _)) (fun b j y => by unfold SMx at y; omega)).app (ME.emit h1 (fun y => absurd y h2) (fun _ y => absurd y h3))
  · refine M_emit_ok hs2 a5 (by omega) ⟨(Fr.emit (Nat.le_refl _)).sh hs2, rfl, hK _ ((Fr.emit (Nat.le_refl _)).sh hs2) ?_⟩
    rw [exO_n a1]
    exact ⟨F2.tr (Fr.emit (by omega)), Or.inr ⟨a1, a2.emit, c' + 1, by omega, by omega, q_I_eq⟩⟩
theorem M_first {X Xs : q_M} {ms ml k ks e : Nat} {tl : List (Option Value)} (hX : MxX G X tl) (hS : MxC G tp w M Xs ms ks n) (hL : MxL G tp w M X ml k tl n) (hy : oky M i (ex tp w n ms e i)) (hn : 8 * (M - i) + ks ≤ n) (hks : 1 ≤ ks) (he : e ≤ 5) (hd : 5 * (5 - e) + 7 + ks ≤ d) (hd2 : 5 * (5 - e) + 7 + k ≤ d + 1) (hP : MxP tp M w σ c i) (hv : ∀ σ', MxV tp M w σ c i (exJ (ex tp w n ms e i) (fun j => ex tp w n ml e j)) σ' → Q none σ') :
    q_Call G d 0 0 Xs [.ref 159, .int (nI e)] σ (q_rv (fun σ2 => q_At G X (d + 1) 0 0 5 (some (.ref 159) :: some (.int (nI e)) :: tl) [] σ2 Q)) := by
  refine hS e i c σ d _ hn he hd hP (fun σ1 hV => ⟨hV.1.sh hP.1, rfl, ?_⟩)
  have hci := hP.2.2.2.1
  rcases hV.2 with ⟨a1, a2, a3, a4⟩ | ⟨a1, a2, _⟩
  · have h2 := hy.2 a1
    have h3 := hy.1.2.1
    have h4 := hy.1.2.2 a1
    exact hL e _ _ σ1 (d + 1) Q (by omega) he hd2 (hP.go hV.1 a2 a3 (by omega)) (fun σ' hV2 => hv σ' (MxV.join hy.1 a1 hV.1 a4 rfl hV2))
  · exact hX e σ1 _ (d + 1) Q (by omega) (hV.1.sh hP.1) a2 (hv σ1 (MxV.fail a1 hV))
theorem M_allX : MxX G X_M_all [none] := by
  intro e σ v dd Q hd hs hF hq
  obtain ⟨d, rfl⟩ : ∃ d', dd = d' + 1 := ⟨dd - 1, by omega⟩
  exact v_M_all_5 hs (M_isWord_no hs hF ⟨hs, _, rfl, fun z => absurd rfl z, fun _ => M_isWord_no hs hF ⟨hs, _, rfl, fun _ => hq, fun z => absurd rfl z⟩⟩)
theorem M_sumsX : MxX G X_M_sums [none] := by
  intro e σ v dd Q hd hs hF hq
  obtain ⟨d, rfl⟩ : ∃ d', dd = d' + 1 := ⟨dd - 1, by omega⟩
  exact v_M_sums_5 hs (M_isSign_no hs hF ⟨hs, _, rfl, fun z => absurd rfl z, fun _ => M_isSign_no hs hF ⟨hs, _, rfl, fun _ => hq, fun z => absurd rfl z⟩⟩)
theorem M_prodX : MxX G X_M_products [] := by
  intro e σ v dd Q hd hs hF hq
  obtain ⟨d, rfl⟩ : ∃ d', dd = d' + 1 := ⟨dd - 1, by omega⟩
  exact v_M_products_5 hs (M_hasSign_no (by omega) hs hF ⟨hs, _, rfl, fun _ => hq, fun z => absurd rfl z⟩)
theorem M_allC (hM : IsM tp M) (hT : MxC G tp w M X_M_test 2 4 n) (hL : MxL G tp w M X_M_all 1 5 [none] n) : MxC G tp w M X_M_all 0 5 (n + 1) := by
  intro e i c σ dd Q hn he hd hP hv
  obtain ⟨d, rfl⟩ : ∃ d', dd = d' + 1 := ⟨dd - 1, by omega⟩
  refine q_cv0 (P := MxV tp M w σ c i (ex tp w (n + 1) 0 e i)) (by decide +kernel) (Nat.le_of_ble_eq_true rfl) (fun Q hv => ?_) hv
  rw [ex0] at hv
  exact v_M_all_0 hP.1 (M_first M_allX hT hL (ex_ok hM n e i hP.2.1.2.2.2.1).2.2.1 (by omega) (by decide) he (by omega) (by omega) hP hv)
theorem M_sumsC (hM : IsM tp M) (hT : MxC G tp w M X_M_products 5 2 n) (hL : MxL G tp w M X_M_sums 4 3 [none] n) : MxC G tp w M X_M_sums 3 3 (n + 1) := by
  intro e i c σ dd Q hn he hd hP hv
  obtain ⟨d, rfl⟩ : ∃ d', dd = d' + 1 := ⟨dd - 1, by omega⟩
  refine q_cv0 (P := MxV tp M w σ c i (ex tp w (n + 1) 3 e i)) (by decide +kernel) (Nat.le_of_ble_eq_true rfl) (fun Q hv => ?_) hv
  rw [ex3] at hv
  exact v_M_sums_0 hP.1 (M_first M_sumsX hT hL (ex_ok hM n e i hP.2.1.2.2.2.1).2.2.2.2.2.1 (by omega) (by decide) he (by omega) (by omega) hP hv)
theorem M_prodC (hM : IsM tp M) (hT : MxC G tp w M X_M_takePart 7 1 n) (hL : MxL G tp w M X_M_products 6 2 [] n) : MxC G tp w M X_M_products 5 2 (n + 1) := by
  intro e i c σ dd Q hn he hd hP hv
  obtain ⟨d, rfl⟩ : ∃ d', dd = d' + 1 := ⟨dd - 1, by omega⟩
  refine q_cv0 (P := MxV tp M w σ c i (ex tp w (n + 1) 5 e i)) (by decide +kernel) (Nat.le_of_ble_eq_true rfl) (fun Q hv => ?_) hv
  rw [ex5] at hv
  exact v_M_products_0 hP.1 (M_first M_prodX hT hL (ex_ok hM n e i hP.2.1.2.2.2.1).2.2.2.2.2.2.2 (by omega) (by decide) he (by omega) (by omega) hP hv)
-- behind an operator's emit the loop goes on
theorem M_again {X : q_M} {ml k e : Nat} {tl : List (Option Value)} {r : q_xr} (hX : MxX G X tl) (hL : MxL G tp w M X ml k tl n) (hy : oky M i r) (hn : 8 * (M - i) + 1 ≤ n + 1) (he : e ≤ 5) (hd : 5 * (5 - e) + 7 + k ≤ d + 1) (hP : MxP tp M w σ c i) (hV : MxV tp M w σ c i r σ1) (hv : ∀ σ', MxV tp M w σ c i (exJ r (fun j => ex tp w n ml e j)) σ' → Q none σ') : q_At G X (d + 1) 0 0 5 (some (.ref 159) :: some (.int (nI e)) :: tl) [] σ1 Q := by
  have hci := hP.2.2.2.1
  rcases hV.2 with ⟨a1, a2, a3, a4⟩ | ⟨a1, a2, _⟩
  · have h2 := hy.2 a1
    have h3 := hy.1.2.1
    have h4 := hy.1.2.2 a1
    exact hL e _ _ σ1 (d + 1) Q (by omega) he hd (hP.go hV.1 a2 a3 (by omega)) (fun σ' hV2 => hv σ' (MxV.join hy.1 a1 hV.1 a4 rfl hV2))
  · exact hX e σ1 _ (d + 1) Q (by omega) (hV.1.sh hP.1) a2 (hv σ1 (MxV.fail a1 hV))
theorem M_allL (hM : IsM tp M) (hT : MxC G tp w M X_M_test 2 4 n) (hL : MxL G tp w M X_M_all 1 5 [none] n) : MxL G tp w M X_M_all 1 5 [none] (n + 1) := by
  intro e i c σ dd Q hn he hd hP hv
  obtain ⟨d, rfl⟩ : ∃ d', dd = d' + 1 := ⟨dd - 1, by omega⟩
  have hs := hP.1
  have hK := hP.2.1
  have hi := hK.2.2.2.1
  rw [ex1] at hv
  have op : ∀ (o oc : Int32), oc = opc o → ¬ 0 ≤ o → ¬ -3 ≤ o → i < M → (∀ σ', MxV tp M w σ c i (exJ (exO (ex tp w n 2 e (i + 1)) o) (fun j => ex tp w n 1 e j)) σ' → Q none σ') → q_Call G d 0 0 X_M_test [.ref 159, .int (nI e)] (q_setI σ 159 7 ((q_I σ 159 7) + 1)) (q_rv (fun σ12 => q_Call G d 0 0 X_M_emit [.ref 159, .int oc, .int 0] σ12 (q_rv (fun σ16 => q_At G X_M_all (d + 1) 0 0 5 [some (.ref 159), some (.int (nI e)), none] [] σ16 Q)))) := fun o oc h1 h2 h3 him hv => by
    have hy := (ex_ok (w := w) hM n e (i + 1) him).2.2.1
    rw [hK.nx]
    exact M_op hT hy.1 h1 h2 h3 hP (Fr.setI ⟨rfl, Or.inl rfl⟩) (hK.at him) he (by omega) (by omega) (fun σ2 hs2 hV => M_again M_allX hL hy.1.o hn he hd hP hV hv)
  refine v_M_all_5 hs (M_isWord_ok (c := 23) (by decide) hs hK ⟨hs, _, rfl, fun c1 => ?_, fun c1 => ?_⟩)
  · rw [i10, Decidable.not_not] at c1
    rw [if_pos c1] at hv
    refine M_isWord_ok (c := 23) (by decide) hs hK ⟨hs, _, rfl, ?_⟩
    dsimp only
    rw [if_pos c1]
    exact op (-5) _ (by decide) (by decide) (by decide) (tk_w hM hi c1) hv
  · rw [i10] at c1
    rw [if_neg c1] at hv
    refine M_isWord_ok (c := 24) (by decide) hs hK ⟨hs, _, rfl, fun c2 => ?_, fun c2 => ?_⟩
    · rw [i10] at c2
      rw [if_neg c2] at hv
      exact hv _ (MxV.nil hP)
    · rw [i10, Decidable.not_not] at c2
      rw [if_pos c2] at hv
      refine M_isWord_ok (c := 23) (by decide) hs hK ⟨hs, _, rfl, ?_⟩
      dsimp only
      rw [if_neg c1]
      exact op (-6) _ (by decide) (by decide) (by decide) (tk_w hM hi c2) hv
theorem M_sumsL (hM : IsM tp M) (hw : WTp tp) (hT : MxC G tp w M X_M_products 5 2 n) (hL : MxL G tp w M X_M_sums 4 3 [none] n) : MxL G tp w M X_M_sums 4 3 [none] (n + 1) := by
  intro e i c σ dd Q hn he hd hP hv
  obtain ⟨d, rfl⟩ : ∃ d', dd = d' + 1 := ⟨dd - 1, by omega⟩
  have hs := hP.1
  have hK := hP.2.1
  have hi := hK.2.2.2.1
  rw [ex4] at hv
  have op : ∀ (o oc : Int32), oc = opc o → ¬ 0 ≤ o → ¬ -3 ≤ o → i < M → (∀ σ', MxV tp M w σ c i (exJ (exO (ex tp w n 5 e (i + 1)) o) (fun j => ex tp w n 4 e j)) σ' → Q none σ') → q_Call G d 0 0 X_M_products [.ref 159, .int (nI e)] (q_setI σ 159 7 ((q_I σ 159 7) + 1)) (q_rv (fun σ12 => q_Call G d 0 0 X_M_emit [.ref 159, .int oc, .int 0] σ12 (q_rv (fun σ16 => q_At G X_M_sums (d + 1) 0 0 5 [some (.ref 159), some (.int (nI e)), none] [] σ16 Q)))) := fun o oc h1 h2 h3 him hv => by
    have hy := (ex_ok (w := w) hM n e (i + 1) him).2.2.2.2.2.1
    rw [hK.nx]
    exact M_op hT hy.1 h1 h2 h3 hP (Fr.setI ⟨rfl, Or.inl rfl⟩) (hK.at him) he (by omega) (by omega) (fun σ2 hs2 hV => M_again M_sumsX hL hy.1.o hn he hd hP hV hv)
  refine v_M_sums_5 hs (M_isSign_ok (c := 43) (by decide) hw hs hK ⟨hs, _, rfl, fun c1 => ?_, fun c1 => ?_⟩)
  · rw [i10, Decidable.not_not] at c1
    rw [if_pos c1] at hv
    refine M_isSign_ok (c := 43) (by decide) hw hs hK ⟨hs, _, rfl, ?_⟩
    dsimp only
    rw [if_pos c1]
    exact op (-9) _ (by decide) (by decide) (by decide) (tk_s hM hi c1) hv
  · rw [i10] at c1
    rw [if_neg c1] at hv
    refine M_isSign_ok (c := 45) (by decide) hw hs hK ⟨hs, _, rfl, fun c2 => ?_, fun c2 => ?_⟩
    · rw [i10] at c2
      rw [if_neg c2] at hv
      exact hv _ (MxV.nil hP)
    · rw [i10, Decidable.not_not] at c2
      rw [if_pos c2] at hv
      refine M_isSign_ok (c := 43) (by decide) hw hs hK ⟨hs, _, rfl, ?_⟩
      dsimp only
      rw [if_neg c1]
      exact op (-10) _ (by decide) (by decide) (by decide) (tk_s hM hi c2) hv
theorem M_prodL (hM : IsM tp M) (hw : WTp tp) (hT : MxC G tp w M X_M_takePart 7 1 n) (hL : MxL G tp w M X_M_products 6 2 [] n) : MxL G tp w M X_M_products 6 2 [] (n + 1) := by
  intro e i c σ dd Q hn he hd hP hv
  obtain ⟨d, rfl⟩ : ∃ d', dd = d' + 1 := ⟨dd - 1, by omega⟩
  have hs := hP.1
  have hK := hP.2.1
  have hi := hK.2.2.2.1
  rw [ex6] at hv
  refine v_M_products_5 hs (M_hasSign_ok (c := 42) (by omega) (by decide) hw hM hs hK (fun c1 σ1 f1 k1 => ⟨f1.sh hs, _, rfl, fun z => absurd z (by decide), fun _ => ?_⟩) (fun c1 => ⟨hs, _, rfl, fun _ => ?_, fun z => absurd rfl z⟩))
  · rw [if_pos c1] at hv
    have him := tk_s hM hi c1
    have hy := (ex_ok (w := w) hM n e (i + 1) him).2.2.2.2.2.2.2
    exact M_op (o := -11) hT hy.1 (by decide) (by decide) (by decide) hP f1 k1 he (by omega) (by omega) (fun σ2 hs2 hV => M_again M_prodX hL hy.1.o hn he hd hP hV hv)
  · rw [if_neg c1] at hv
    exact hv _ (MxV.nil hP)
theorem M_testC (hM : IsM tp M) (hw : WTp tp) (hS : MxC G tp w M X_M_sums 3 3 n) : MxC G tp w M X_M_test 2 4 (n + 1) := by
  intro e i c σ dd Q hn he hd hP hv
  obtain ⟨d, rfl⟩ : ∃ d', dd = d' + 1 := ⟨dd - 1, by omega⟩
  refine q_cv0 (P := MxV tp M w σ c i (ex tp w (n + 1) 2 e i)) (by decide +kernel) (Nat.le_of_ble_eq_true rfl) (fun Q hv => ?_) hv
  rw [ex2] at hv
  have hy := (ex_ok (w := w) hM n e i hP.2.1.2.2.2.1).2.2.2.1
  have hci := hP.2.2.2.1
  refine v_M_test_0 hP.1 (hS e i c σ d _ (by omega) he (by omega) hP (fun σ1 hV => ⟨hV.1.sh hP.1, rfl, ?_⟩))
  have hs1 := hV.1.sh hP.1
  rcases hV.2 with ⟨a1, a2, a3, a4⟩ | ⟨a1, a2, _⟩
  · have h2 := hy.2 a1
    have h3 := hy.1.2.1
    have h4 := hy.1.2.2 a1
    have hP1 := hP.go hV.1 a2 a3 (by omega)
    generalize hj : (ex tp w n 3 e i).2.1 = j at *
    generalize hc1 : c + (ex tp w n 3 e i).2.2.length = c1 at *
    have hv1 : ∀ r2, (if isS (tk tp j) 60 = true then exO (ex tp w n 3 e (j + 1)) (-7) else if isS (tk tp j) 61 = true then exO (ex tp w n 3 e (j + 1)) (-8) else (0, j, [])) = r2 → ∀ σ', MxV tp M w σ1 c1 j r2 σ' → Q none σ' := fun r2 e2 σ' hV2 => by
      refine hv σ' (MxV.join hy.1 a1 hV.1 a4 (r2 := r2) (by rw [hj]; exact e2) ?_)
      rw [hc1, hj]
      exact hV2
    have op : ∀ (o oc : Int32) (σ2 : q_S), oc = opc o → ¬ 0 ≤ o → ¬ -3 ≤ o → j < M → Fr S78 noL σ1 σ2 → MK σ2 tp M (j + 1) → (∀ σ', MxV tp M w σ1 c1 j (exO (ex tp w n 3 e (j + 1)) o) σ' → Q none σ') → q_Call G d 0 0 X_M_sums [.ref 159, .int (nI e)] σ2 (q_rv (fun σ15 => q_Call G d 0 0 X_M_emit [.ref 159, .int oc, .int 0] σ15 (q_rv (fun σ19 => Q none σ19)))) := fun o oc σ2 h1 h5 h6 him f2 k2 hv => M_op hS (ex_ok (w := w) hM n e (j + 1) him).2.2.2.1.1 h1 h5 h6 hP1 f2 k2 he (by omega) (by omega) (fun σ3 _ hV3 => hv σ3 hV3)
    refine M_isSign_ok (c := 60) (by decide) hw hs1 a2 ⟨hs1, _, rfl, ?_⟩
    refine M_hasSign_ok (c := 60) (by omega) (by decide) hw hM hs1 a2 (fun c1' σ2 f2 k2 => ⟨f2.sh hs1, _, rfl, fun _ => ?_, fun z => absurd z (by decide)⟩) (fun c1' => ⟨hs1, _, rfl, fun z => absurd rfl z, fun _ => ?_⟩)
    · rw [if_pos c1']
      exact op (-7) _ σ2 (by decide) (by decide) (by decide) (tk_s hM h3 c1') f2 k2 (hv1 _ (if_pos c1'))
    · refine M_hasSign_ok (c := 61) (by omega) (by decide) hw hM hs1 a2 (fun c2 σ2 f2 k2 => ⟨f2.sh hs1, _, rfl, fun z => absurd z (by decide), fun _ => ?_⟩) (fun c2 => ⟨hs1, _, rfl, fun _ => ?_, fun z => absurd rfl z⟩)
      · rw [if_neg c1']
        exact op (-8) _ σ2 (by decide) (by decide) (by decide) (tk_s hM h3 c2) f2 k2 (hv1 _ (by rw [if_neg c1', if_pos c2]))
      · exact hv1 _ (by rw [if_neg c1', if_neg c2]) _ (MxV.nil hP1)
  · have q := hv σ1 (MxV.fail a1 hV)
    exact M_isSign_no hs1 a2 ⟨hs1, _, rfl, M_hasSign_no (by omega) hs1 a2 ⟨hs1, _, rfl, fun z => absurd rfl z, fun _ => M_hasSign_no (by omega) hs1 a2 ⟨hs1, _, rfl, fun _ => q, fun z => absurd rfl z⟩⟩⟩
end MEXPR
