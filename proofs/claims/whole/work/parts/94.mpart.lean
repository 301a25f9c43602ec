theorem msk_bit : ∀ w, w < 3 → ∀ k, k < 8 → ((((msk w) >>> (nI k &&& 31)) &&& 1 = 1) ↔ fct w (25 + k) < 3) := by decide +kernel
theorem fct_enc : ∀ w, w < 3 → ∀ v, v < 34 → fct w v < 3 → opc ((-1) - nI (fct w v)) = 2 ∧ ¬ 0 ≤ ((-1) - nI (fct w v)) ∧ fix w ((-1) - nI (fct w v)) = v - 25 ∧ 25 ≤ v ∧ v < 33 := by decide +kernel
theorem opc_num {n : Nat} (h : n < 2 ^ 31) : opc (nI n) = 1 := by unfold opc; rw [if_pos (nI_pos' h)]
section MPART
variable {G : q_G} {d : Nat} {σ σ' σ1 : q_S} {Q : Option Value → q_S → Prop} {tp : List Nat} {i w M n c : Nat}
theorem fc_eq (hw3 : w < 3) : (if whT (tk tp i) 25 8 < 0 then ((-1) : Int32) else (if (((msk w) >>> (whT (tk tp i) 25 8 &&& 31)) &&& 1) = 1 then whT (tk tp i) 25 8 else ((-1) : Int32))) = if isF w (tk tp i) = true then nI ((tk tp i).2.2.1 - 25) else -1 := by
  by_cases c : (tk tp i).1 = 1 ∧ 25 ≤ (tk tp i).2.2.1 ∧ (tk tp i).2.2.1 < 25 + 8
  · rw [if_neg (fun z => (wh_neg (by decide)).mp z c), whT_1 c]
    have h := msk_bit w hw3 ((tk tp i).2.2.1 - 25) (by omega)
    rw [show 25 + ((tk tp i).2.2.1 - 25) = (tk tp i).2.2.1 by omega] at h
    by_cases c2 : fct w (tk tp i).2.2.1 < 3
    · rw [if_pos (h.mpr c2), if_pos (isF_t.mpr ⟨c.1, c2⟩)]
    · rw [if_neg (fun z => c2 (h.mp z)), if_neg (fun z => c2 (isF_t.mp z).2)]
  · rw [if_pos ((wh_neg (by decide)).mpr c), if_neg]
    intro z
    have z := isF_t.mp z
    have := fct_enc w hw3 _ (tk_v33 z.1) z.2
    exact c ⟨z.1, by omega, by omega⟩
-- a number or a fact: told, left behind
theorem M_leaf {o oc b : Int32} {K : q_S → Prop} (h1 : oc = opc o) (h2 : 0 ≤ o → b = o) (h3 : ¬ 0 ≤ o → -3 ≤ o → b = nI (fix w o)) (hP : MxP tp M w σ c i) (him : i < M) (hK : ∀ σ', MxV tp M w σ c i (0, i + 1, [o]) σ' → K σ') : q_Call G d 0 0 X_M_emit [.ref 159, .int oc, .int b] σ (q_rv (fun σ19 => K (q_setI σ19 159 7 ((q_I σ19 159 7) + 1)))) := by
  have hci := hP.2.2.2.1
  have hM := hP.2.1.2.2.2
  refine M_emit_ok hP.1 hP.2.2.1 (by omega) ⟨(Fr.emit (Nat.le_refl _)).sh hP.1, rfl, hK _ ?_⟩
  have k1 : MK (q_setI (q_setI (q_setI σ 166 (1100 + c) oc) 167 (1100 + c) b) 159 13 (nI (c + 1))) tp M i := hP.2.1.emit
  rw [k1.nx]
  refine ⟨(Fr.emit (Nat.le_refl _)).tr (S78_x (Fr.setI ⟨rfl, Or.inl rfl⟩)), Or.inl ⟨rfl, k1.at him, ?_, ?_⟩⟩
  · rw [q_I_ne (by omega), q_I_eq]
    rfl
  · exact (ME.emit h1 h2 h3).fr (SI := S78) (SL := noL) (Fr.setI ⟨rfl, Or.inl rfl⟩) (fun x y z => by unfold S78 at z; omega)
theorem M_partC (hM : IsM tp M) (hw : WTp tp) (hw3 : w < 3) (hC : MxC G tp w M X_M_all 0 5 n) (hR : MxC G tp w M X_M_takePart 7 1 n) : MxC G tp w M X_M_takePart 7 1 (n + 1) := by
  intro e i c σ dd Q hn he hd hP hv
  obtain ⟨d, rfl⟩ : ∃ d', dd = d' + 1 := ⟨dd - 1, by omega⟩
  refine q_cv0 (P := MxV tp M w σ c i (ex tp w (n + 1) 7 e i)) (by decide +kernel) (Nat.le_of_ble_eq_true rfl) (fun Q hv => ?_) hv
  have hs := hP.1
  have hK := hP.2.1
  have hi := hK.2.2.2.1
  have hMb := hK.2.2.2.2
  have l0 : q_I σ 159 8 ≤ 0 := by rw [hK.2.2.1]; exact Int32.le_refl _
  have h4 := tk_sort (tp := tp) i
  have e2 : (q_I σ 161 i = 2) ↔ (tk tp i).1 = 2 := by rw [hK.me.1]; exact nI_eq (b := 2) (by omega) (by decide)
  rw [ex7] at hv
  refine v_M_takePart_0 hs ⟨fun _ => ⟨i, hK.2.1, by omega, M_wordHere_ok (f := 25) (m := 8) (by omega) (by decide) hs hK ⟨hs, _, rfl, ?_⟩⟩, fun z => absurd l0 z⟩
  dsimp only
  rw [hP.2.2.2.2, fc_eq hw3]
  have hnb0 : ((if q_I σ 161 i = 2 then (1 : Int32) else 0) = 0) ↔ ¬ (tk tp i).1 = 2 := by rw [if10, e2]
  have hfc : (0 ≤ (if isF w (tk tp i) = true then nI ((tk tp i).2.2.1 - 25) else (-1 : Int32))) ↔ isF w (tk tp i) = true := by
    by_cases c : isF w (tk tp i) = true
    · rw [if_pos c]
      have := tk_v33 (isF_t.mp c).1
      exact ⟨fun _ => c, fun _ => nI_pos' (by omega)⟩
    · rw [if_neg c]
      exact ⟨fun z => absurd z (by decide), fun z => absurd z c⟩
  have hfv : isF w (tk tp i) = true → (if isF w (tk tp i) = true then nI ((tk tp i).2.2.1 - 25) else (-1 : Int32)) = nI ((tk tp i).2.2.1 - 25) := fun c => if_pos c
  generalize (if isF w (tk tp i) = true then nI ((tk tp i).2.2.1 - 25) else (-1 : Int32)) = fc at hfc hfv ⊢
  generalize (if q_I σ 161 i = 2 then (1 : Int32) else 0) = nb at hnb0 ⊢
  -- at the wrong token
  have stop : ∀ k σ1, k ≠ 0 → Fr S78 noL σ σ1 → FX σ1 (nI (flt tp k i)) → (∀ σ', MxV tp M w σ c i (k, i, []) σ' → Q none σ') → q_At G X_M_takePart (d + 1) 0 0 102 [some (.ref 159), some (.int (nI e)), some (.int nb), some (.int fc)] [] σ1 Q := fun k σ1 hk f1 x1 hv => v_M_takePart_102 (f1.sh hs) ⟨fun z => absurd z x1.nle, fun _ => hv σ1 ⟨S78_x f1, Or.inr ⟨hk, x1, c, Nat.le_refl _, Nat.le_refl _, by rw [f1.2.2.1 _ _ (fun z => by unfold S78 at z; omega)]; exact hP.2.2.1⟩⟩⟩
  have blk : ((tk tp i).1 = 2 ∨ isF w (tk tp i) = true ∨ isW (tk tp i) 22 = true ∨ isS (tk tp i) 40 = true) → q_At G X_M_takePart (d + 1) 0 0 92 [some (.ref 159), some (.int (nI e)), some (.int nb), some (.int fc)] [] σ Q := by
    intro any
    have him : i < M := tk_in hM hi (fun z => by
      rcases any with c | c | c | c
      · rw [c] at z; exact absurd z (by decide)
      · rw [(isF_t.mp c).1] at z; exact absurd z (by decide)
      · rw [(isW_t.mp c).1] at z; exact absurd z (by decide)
      · rw [(isS_t.mp c).1] at z; exact absurd z (by decide))
    have e5 : (nI e = 5) ↔ e = 5 := nI_eq (b := 5) (by omega) (by decide)
    refine v_M_takePart_92 hs ⟨fun c5 => ?_, fun c5 => ?_⟩
    · rw [e5] at c5
      have l5 : ¬ 5 ≤ e := by omega
      refine v_M_takePart_102 hs ⟨fun _ => ?_, fun z => absurd l0 z⟩
      rw [nI_1 e]
      refine M_hasWord_ok (c := 22) (by omega) (by decide) hM hs hK (fun c9 σ1 f1 k1 => ⟨f1.sh hs, _, rfl, fun z => absurd z (by decide), fun _ => ?_⟩) (fun c9 => ⟨hs, _, rfl, fun _ => ?_, fun z => absurd rfl z⟩)
      · have t1 := isW_t.mp c9
        have n2 : ¬ (tk tp i).1 = 2 := by omega
        have nF : ¬ isF w (tk tp i) = true := fun z => by
          have z := isF_t.mp z
          have := fct_enc w hw3 _ (tk_v33 z.1) z.2
          omega
        rw [if_neg n2, if_neg nF, if_pos c9, if_neg l5] at hv
        exact M_op (o := -4) (e := e + 1) hR (ex_ok (w := w) hM n (e + 1) (i + 1) him).2.2.2.2.2.2.2.1 (by decide) (by decide) (by decide) hP f1 k1 (by omega) (by omega) (by omega) (fun σ2 _ hV => hv σ2 hV)
      · refine M_hasSign_ok (c := 40) (by omega) (by decide) hw hM hs hK (fun c4 σ1 f1 k1 => ⟨f1.sh hs, _, rfl, fun z => absurd z (by decide), fun _ => ?_⟩) (fun c4 => ⟨hs, _, rfl, fun _ => ?_, fun z => absurd rfl z⟩)
        · have t1 := isS_t.mp c4
          have n2 : ¬ (tk tp i).1 = 2 := by omega
          have nF : ¬ isF w (tk tp i) = true := fun z => by have := (isF_t.mp z).1; omega
          rw [if_neg n2, if_neg nF, if_neg c9, if_pos c4, if_neg l5] at hv
          have hP1 := hP.nx (j := i + 1) (by omega) f1 k1
          have hy := (ex_ok (w := w) hM n (e + 1) (i + 1) him).1
          refine hC (e + 1) (i + 1) c σ1 d _ (by omega) (by omega) (by omega) hP1 (fun σ2 hV => ⟨hV.1.sh hP1.1, rfl, ?_⟩)
          have hs2 := hV.1.sh hP1.1
          rcases hV.2 with ⟨a1, a2, a3, a4⟩ | ⟨a1, a2, _⟩
          · have h4 := hy.1.2.2 a1
            refine M_takeSign_ok (c := 41) (by omega) (by decide) hw hM hs2 a2 (fun c s3 f3 k3 => ⟨f3.sh hs2, rfl, hv _ ?_⟩) (fun c s3 f3 x3 => ⟨f3.sh hs2, rfl, hv _ ?_⟩)
            · refine MxV.pre f1 (by omega) (MxV.join hy.1 a1 hV.1 a4 (if_pos c) ⟨S78_x f3, Or.inl ⟨rfl, k3, ?_, ME.nil⟩⟩)
              rw [f3.2.2.1 _ _ (fun z => by unfold S78 at z; omega)]
              exact a3
            · refine MxV.pre f1 (by omega) (MxV.join hy.1 a1 hV.1 a4 (if_neg c) ⟨S78_x f3, Or.inr ⟨(by decide : (1 : Nat) ≠ 0), x3, _, Nat.le_refl _, Nat.le_refl _, ?_⟩⟩)
              rw [f3.2.2.1 _ _ (fun z => by unfold S78 at z; omega)]
              exact a3
          · exact M_takeSign_no (by omega) hs2 a2 ⟨hs2, rfl, hv _ (MxV.pre f1 (by omega) (MxV.fail a1 hV))⟩
        · refine ⟨fun cn => ?_, fun cn => ⟨i, hK.2.1, by omega, ?_⟩⟩
          · have n2 := hnb0.mp cn
            have yF : isF w (tk tp i) = true := by
              rcases any with c | c | c | c
              · exact absurd c n2
              · exact c
              · exact absurd c c9
              · exact absurd c c4
            have z := isF_t.mp yF
            obtain ⟨u1, u2, u3, u4, u5⟩ := fct_enc w hw3 _ (tk_v33 z.1) z.2
            rw [if_neg n2, if_pos yF, if_neg l5] at hv
            rw [if_pos cn, hfv yF]
            exact M_leaf u1.symm (fun y => absurd y u2) (fun _ _ => by rw [u3]) hP him (fun σ' hV => hv σ' hV)
          · have y2 : (tk tp i).1 = 2 := Classical.byContradiction (fun z => cn (hnb0.mpr z))
            have h9 : (tk tp i).2.2.1 < 10000 := tkA_n (p := ps tp i) y2
            rw [if_pos y2, if_neg l5] at hv
            rw [if_neg cn, hK.me.2.2.2 (Or.inl y2), lN_i]
            exact M_leaf (opc_num (by omega)).symm (fun _ => rfl) (fun y => absurd (nI_pos' (by omega)) y) hP him (fun σ' hV => hv σ' hV)
    · rw [e5] at c5
      have l5 : 5 ≤ e := by omega
      have hv5 : ∀ σ', MxV tp M w σ c i (5, i, []) σ' → Q none σ' := by
        by_cases cn2 : (tk tp i).1 = 2
        · rw [if_pos cn2, if_pos l5] at hv; exact hv
        · by_cases cf2 : isF w (tk tp i) = true
          · rw [if_neg cn2, if_pos cf2, if_pos l5] at hv; exact hv
          · by_cases c92 : isW (tk tp i) 22 = true
            · rw [if_neg cn2, if_neg cf2, if_pos c92, if_pos l5] at hv; exact hv
            · have c40 : isS (tk tp i) 40 = true := by
                rcases any with c | c | c | c
                · exact absurd c cn2
                · exact absurd c cf2
                · exact absurd c c92
                · exact c
              rw [if_neg cn2, if_neg cf2, if_neg c92, if_pos c40, if_pos l5] at hv; exact hv
      exact M_wrong_ok (k := 5) hs hK hw.1 (by decide) (by decide) (fun σ1 f1 x1 => ⟨f1.sh hs, rfl, stop 5 σ1 (by decide) f1 x1 hv5⟩)
  refine ⟨fun cf => blk (Or.inr (Or.inl (hfc.mp cf))), fun cf => ⟨fun cn => blk (Or.inl (Classical.byContradiction (fun z => cn (hnb0.mpr z)))), fun cn => ?_⟩⟩
  refine M_isSign_ok (c := 40) (by decide) hw hs hK ⟨hs, _, rfl, fun c4 => blk (Or.inr (Or.inr (Or.inr (by rw [i10, Decidable.not_not] at c4; exact c4)))), fun c4 => ?_⟩
  rw [i10] at c4
  refine M_isWord_ok (c := 22) (by decide) hs hK ⟨hs, _, rfl, fun c9 => blk (Or.inr (Or.inr (Or.inl (by rw [i10, Decidable.not_not] at c9; exact c9)))), fun c9 => ?_⟩
  rw [i10] at c9
  rw [if_neg (hnb0.mp cn), if_neg (fun z => cf (hfc.mpr z)), if_neg c9, if_neg c4] at hv
  exact M_wrong_ok (k := 1) hs hK hw.1 (by decide) (by decide) (fun σ1 f1 x1 => ⟨f1.sh hs, rfl, stop 1 σ1 (by decide) f1 x1 hv⟩)
theorem Mx_all (hM : IsM tp M) (hw : WTp tp) (hw3 : w < 3) : ∀ n, MxC G tp w M X_M_all 0 5 n ∧ MxL G tp w M X_M_all 1 5 [none] n ∧ MxC G tp w M X_M_test 2 4 n ∧ MxC G tp w M X_M_sums 3 3 n ∧ MxL G tp w M X_M_sums 4 3 [none] n ∧ MxC G tp w M X_M_products 5 2 n ∧ MxL G tp w M X_M_products 6 2 [] n ∧ MxC G tp w M X_M_takePart 7 1 n
  | 0 => ⟨fun e i c σ dd Q h => by omega, fun e i c σ dd Q h => by omega, fun e i c σ dd Q h => by omega, fun e i c σ dd Q h => by omega, fun e i c σ dd Q h => by omega, fun e i c σ dd Q h => by omega, fun e i c σ dd Q h => by omega, fun e i c σ dd Q h => by omega⟩
  | n + 1 => by
    obtain ⟨i0, i1, i2, i3, i4, i5, i6, i7⟩ := Mx_all hM hw hw3 n
    exact ⟨M_allC hM i2 i1, M_allL hM i2 i1, M_testC hM hw i3, M_sumsC hM i5 i4, M_sumsL hM hw i5 i4, M_prodC hM i7 i6, M_prodL hM hw i7 i6, M_partC hM hw hw3 i0 i7⟩
end MPART
