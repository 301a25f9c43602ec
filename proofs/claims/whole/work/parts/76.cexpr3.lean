section CEXPR3
variable {G : q_G} {d : Nat} {σ σ' σ1 : q_S} {Q : Option Value → q_S → Prop} {tp : List Nat} {i w M a0 n : Nat} {S : List Int32}
theorem La_partC (hM : IsM tp M) (hM1 : M ≤ 1000) (hw : WTp tp) (hw3 : w < 3) (ha : q_isLa a0) (hC : LaC G tp w M a0 X_La_readChain 0 5 n) (hR : LaC G tp w M a0 X_La_readPart 7 1 n) : LaC G tp w M a0 X_La_readPart 7 1 (n + 1) := by
  intro e i σ S dd Q hn he hd hP hv
  obtain ⟨d, rfl⟩ : ∃ d', dd = d' + 1 := ⟨dd - 1, by omega⟩
  refine q_cii (Pp := LaV tp a0 σ S (ex tp w (n + 1) 7 e i)) (by decide +kernel) (Nat.le_of_ble_eq_true rfl) (fun Q hv => ?_) hv
  have hs := hP.1
  have hK := hP.2.1
  have hi := hP.2.2.2.2.2
  have h15 := hP.2.2.2.1
  have hz := hP.2.2.2.2.1
  refine v_La_readPart_0 ha hs (La_fact_ok hw3 (by omega) hs hK ⟨hs, _, rfl, Tk_isWord_ok (w := 22) (by decide) hs hK ⟨hs, _, rfl, ?_⟩⟩)
  have e2 : (q_I σ 3 1 = 2) ↔ (tk tp i).1 = 2 := hK.s1 (n := 2) (by decide)
  have hnb0 : ((if q_I σ 3 1 = 2 then (1 : Int32) else 0) = 0) ↔ ¬ (tk tp i).1 = 2 := by rw [if10, e2]
  have hx90 : ((if isW (tk tp i) 22 = true then (1 : Int32) else 0) = 0) ↔ ¬ isW (tk tp i) 22 = true := by rw [if10]
  have hx4m : ((if isF w (tk tp i) = true then nI (fct w (tk tp i).2.2.1) else (-1 : Int32)) = -1) ↔ ¬ isF w (tk tp i) = true := by
    by_cases c : isF w (tk tp i) = true
    · rw [if_pos c]
      have := fct_le w (tk tp i).2.2.1
      exact ⟨fun z => absurd z (nm1 _ (by omega)), fun z => absurd c z⟩
    · rw [if_neg c]
      exact ⟨fun _ => c, fun _ => rfl⟩
  have hx4v : isF w (tk tp i) = true → (if isF w (tk tp i) = true then nI (fct w (tk tp i).2.2.1) else (-1 : Int32)) = nI (fct w (tk tp i).2.2.1) := fun c => if_pos c
  generalize (if isF w (tk tp i) = true then nI (fct w (tk tp i).2.2.1) else (-1 : Int32)) = x4 at hx4m hx4v ⊢
  generalize (if isW (tk tp i) 22 = true then (1 : Int32) else 0) = x9 at hx90 ⊢
  generalize (if q_I σ 3 1 = 2 then (1 : Int32) else 0) = nb at hnb0 ⊢
  have l5 : (nI e < 5) ↔ e < 5 := nI_ltI (b := 5) (by omega) (by decide)
  rw [ex7] at hv
  -- a step is added, the token left
  have aa : ∀ s : Int32, i < M → (∀ v σ', LaV tp a0 σ S (0, i + 1, [s]) v σ' → Q (some (.int v)) σ') → q_Call G d 0 0 X_La_addStep [.ref a0, .int s] σ (q_rv (fun σ18 => q_Call G d 0 0 X_Tk_advance [.ref 3] σ18 (q_rv (fun σ21 => Q (some (.int 1)) σ21)))) := fun s him hv => by
    refine La_addStep_ok ha hs hP.2.2.1 (by omega) (fun σ1 f1 s1 => ⟨f1.sh hs, rfl, ?_⟩)
    refine Tk_next (by omega) (f1.sh hs) hw (hK.ea ha f1) (fun σ2 f2 k2 => ⟨f2.sh (f1.sh hs), rfl, hv _ _ (Or.inl ⟨rfl, rfl, (FkE f1).tr (FkA f2), k2, s1.ka ha f2 (fun a j z => z.1), f39 f2 (f39e ha f1 hz)⟩)⟩)
  have blk : ((tk tp i).1 = 2 ∨ isF w (tk tp i) = true ∨ isW (tk tp i) 22 = true ∨ isS (tk tp i) 40 = true) → ((nI e < 5 → ((¬ nb = 0 → q_Call G d 0 0 X_La_addStep [.ref a0, .int (if nb = 0 then ((-1) - x4) else (q_I σ 3 6))] σ (q_rv (fun σ18 => q_Call G d 0 0 X_Tk_advance [.ref 3] σ18 (q_rv (fun σ21 => Q (some (.int 1)) σ21))))) ∧ (nb = 0 → ((x4 = (-1) → q_Call G d 0 0 X_Tk_advance [.ref 3] σ (q_rv (fun σ27 => ((¬ x9 = 0 → q_Call G d 0 0 X_La_readPart [.ref a0, .ref 3, .int (nI w), .int (nI e + 1)] σ27 (q_ri (fun x34 σ32 => ((¬ x34 = 0 → q_Call G d 0 0 X_La_addStep [.ref a0, .int (-4)] σ32 (q_rv (fun σ38 => Q (some (.int 1)) σ38))) ∧ (x34 = 0 → Q (some (.int 0)) σ32))))) ∧ (x9 = 0 → q_Call G d 0 0 X_La_readChain [.ref a0, .ref 3, .int (nI w), .int (nI e + 1)] σ27 (q_ri (fun x45 σ43 => ((x45 = 0 → Q (some (.int 0)) σ43) ∧ (¬ x45 = 0 → q_Call G d 0 0 X_Tk_takeSign [.ref 3, .int 41] σ43 (q_ri (fun x52 σ50 => (narrow .boolean (.int (if x52 = 0 then (0 : Int32) else (1 : Int32))) = .int (if x52 = 0 then (0 : Int32) else (1 : Int32)) ∧ Q (some (.int (if x52 = 0 then (0 : Int32) else (1 : Int32)))) σ50)))))))))))) ∧ (¬ x4 = (-1) → q_Call G d 0 0 X_La_addStep [.ref a0, .int (if nb = 0 then ((-1) - x4) else (q_I σ 3 6))] σ (q_rv (fun σ57 => q_Call G d 0 0 X_Tk_advance [.ref 3] σ57 (q_rv (fun σ60 => Q (some (.int 1)) σ60))))))))) ∧ (¬ nI e < 5 → q_Call G d 0 0 X_Tk_refuse [.ref 3, .int 5] σ (q_ri (fun x66 σ64 => (narrow .boolean (.int x66) = .int x66 ∧ Q (some (.int x66)) σ64))))) := by
    intro any
    have him : i < M := tk_in hM hi (fun z => by
      rcases any with c | c | c | c
      · rw [c] at z; exact absurd z (by decide)
      · rw [(isF_t.mp c).1] at z; exact absurd z (by decide)
      · rw [(isW_t.mp c).1] at z; exact absurd z (by decide)
      · rw [(isS_t.mp c).1] at z; exact absurd z (by decide))
    refine ⟨fun c5 => ⟨fun cn => ?_, fun cn => ⟨fun cf => ?_, fun cf => ?_⟩⟩, fun c5 => ?_⟩
    · have cn2 : (tk tp i).1 = 2 := Classical.byContradiction (fun z => cn (hnb0.mpr z))
      rw [l5] at c5
      rw [if_neg cn, hK.2.2.2.2.2.1 cn2]
      rw [if_pos cn2, if_neg (by omega)] at hv
      exact aa _ him hv
    · have cn2 := hnb0.mp cn
      have cf2 := hx4m.mp cf
      rw [l5] at c5
      rw [if_neg cn2, if_neg cf2] at hv
      refine Tk_next (by omega) hs hw hK (fun σ1 f1 k1 => ⟨f1.sh hs, rfl, fun c9 => ?_, fun c9 => ?_⟩)
      · have c92 : isW (tk tp i) 22 = true := Classical.byContradiction (fun z => c9 (hx90.mpr z))
        rw [if_pos c92, if_neg (by omega)] at hv
        have hP1 := hP.adv ha him f1 k1
        have hy := (ex_ok (w := w) hM n (e + 1) (i + 1) him).2.2.2.2.2.2.2
        rw [nI_1]
        refine hR (e + 1) (i + 1) σ1 S d _ (by omega) (by omega) (by omega) hP1 (fun v σ2 hV => ?_)
        rcases hV with ⟨r0, rfl, f2, k2, s2, z2⟩ | ⟨r0, rfl, f2, z2⟩
        · have hP2 := hP1.next hM hy.1 r0 f2 k2 s2 z2
          rw [exO_0 r0] at hv
          refine ⟨f2.sh hP1.1, _, rfl, fun _ => ?_, fun c => absurd c (by decide)⟩
          refine La_addStep_ok ha hP2.1 s2 (by have := hP2.2.2.2.1; have := hP2.2.2.2.2.2; omega) (fun σ3 f3 s3 => ⟨f3.sh hP2.1, rfl, hv _ _ (Or.inl ⟨rfl, rfl, ((FkA f1).tr f2).tr (FkE f3), k2.ea ha f3, ?_, f39e ha f3 z2⟩)⟩)
          rw [← List.append_assoc]
          exact s3
        · rw [exO_n r0] at hv
          exact ⟨f2.sh hP1.1, _, rfl, fun c => absurd rfl c, fun _ => hv _ _ (Or.inr ⟨r0, rfl, (FkA f1).tr f2, z2⟩)⟩
      · have c92 := hx90.mp c9
        have c40 : isS (tk tp i) 40 = true := by
          rcases any with c | c | c | c
          · exact absurd c cn2
          · exact absurd c cf2
          · exact absurd c c92
          · exact c
        rw [if_neg c92, if_pos c40, if_neg (by omega)] at hv
        have hP1 := hP.adv ha him f1 k1
        have hy := (ex_ok (w := w) hM n (e + 1) (i + 1) him).1
        rw [nI_1]
        refine hC (e + 1) (i + 1) σ1 S d _ (by omega) (by omega) (by omega) hP1 (fun v σ2 hV => ?_)
        rcases hV with ⟨r0, rfl, f2, k2, s2, z2⟩ | ⟨r0, rfl, f2, z2⟩
        · have hP2 := hP1.next hM hy.1 r0 f2 k2 s2 z2
          refine ⟨f2.sh hP1.1, _, rfl, fun c => absurd c (by decide), fun _ => ?_⟩
          refine Tk_takeSign_ok (w := 41) (by omega) (by decide) hP2.1 hw k2 (fun c σ3 f3 k3 => ⟨f3.sh hP2.1, _, rfl, rfl, hv _ _ ?_⟩) (fun c σ3 f3 z3 => ⟨f3.sh hP2.1, _, rfl, rfl, hv _ _ ?_⟩)
          · refine LaV.join r0 ((FkA f1).tr f2) (if_pos c) (Or.inl ⟨rfl, rfl, FkA f3, k3, ?_, f39 f3 z2⟩)
            rw [List.append_nil]
            exact s2.ka ha f3 (fun a j z => z.1)
          · exact LaV.join r0 ((FkA f1).tr f2) (if_neg c) (Or.inr ⟨(by decide : (1 : Nat) ≠ 0), rfl, Fk9 f3, z3⟩)
        · exact ⟨f2.sh hP1.1, _, rfl, fun _ => hv _ _ (LaV.fail r0 (Or.inr ⟨r0, rfl, (FkA f1).tr f2, z2⟩)), fun c => absurd rfl c⟩
    · have cn2 := hnb0.mp cn
      have cf2 : isF w (tk tp i) = true := Classical.byContradiction (fun z => cf (hx4m.mpr z))
      rw [l5] at c5
      rw [if_pos cn, hx4v cf2]
      rw [if_neg cn2, if_pos cf2, if_neg (by omega)] at hv
      exact aa _ him hv
    · have c5 : 5 ≤ e := Nat.le_of_not_lt (fun z => c5 (l5.mpr z))
      have hv5 : ∀ v σ', LaV tp a0 σ S (5, i, []) v σ' → Q (some (.int v)) σ' := by
        by_cases cn2 : (tk tp i).1 = 2
        · rw [if_pos cn2, if_pos c5] at hv; exact hv
        · by_cases cf2 : isF w (tk tp i) = true
          · rw [if_neg cn2, if_pos cf2, if_pos c5] at hv; exact hv
          · by_cases c92 : isW (tk tp i) 22 = true
            · rw [if_neg cn2, if_neg cf2, if_pos c92, if_pos c5] at hv; exact hv
            · have c40 : isS (tk tp i) 40 = true := by
                rcases any with c | c | c | c
                · exact absurd c cn2
                · exact absurd c cf2
                · exact absurd c c92
                · exact c
              rw [if_neg cn2, if_neg cf2, if_neg c92, if_pos c40, if_pos c5] at hv; exact hv
      exact Tk_refuse_ok (k := 5) hs hK (fun σ1 f1 z1 => ⟨f1.sh hs, _, rfl, rfl, hv5 _ _ (Or.inr ⟨(by decide : (5 : Nat) ≠ 0), rfl, Fk9 f1, z1⟩)⟩)
  refine ⟨fun cn => blk (Or.inl (Classical.byContradiction (fun z => cn (hnb0.mpr z)))), fun cn => ⟨fun cf => blk (Or.inr (Or.inl (Classical.byContradiction (fun z => cf (hx4m.mpr z))))), fun cf => ⟨fun c9 => blk (Or.inr (Or.inr (Or.inl (Classical.byContradiction (fun z => c9 (hx90.mpr z)))))), fun c9 => ?_⟩⟩⟩
  refine Tk_isSign_ok (c := 40) (by decide) hs hw hK ⟨hs, _, rfl, fun c4 => blk (Or.inr (Or.inr (Or.inr (Classical.byContradiction (fun z => c4 (by rw [if_neg z])))))), fun c4 => ?_⟩
  have c40 : ¬ isS (tk tp i) 40 = true := fun z => by rw [if_pos z] at c4; exact absurd c4 (by decide)
  rw [if_neg (hnb0.mp cn), if_neg (hx4m.mp cf), if_neg (hx90.mp c9), if_neg c40] at hv
  exact Tk_refuse_ok (k := 1) hs hK (fun σ1 f1 z1 => ⟨f1.sh hs, _, rfl, rfl, hv _ _ (Or.inr ⟨(by decide : (1 : Nat) ≠ 0), rfl, Fk9 f1, z1⟩)⟩)
theorem La_all (hM : IsM tp M) (hM1 : M ≤ 1000) (hw : WTp tp) (hw3 : w < 3) (ha : q_isLa a0) : ∀ n, LaC G tp w M a0 X_La_readChain 0 5 n ∧ LaL G tp w M a0 X_La_readChain 1 5 [none] n ∧ LaC G tp w M a0 X_La_readTest 2 4 n ∧ LaC G tp w M a0 X_La_readSum 3 3 n ∧ LaL G tp w M a0 X_La_readSum 4 3 [none] n ∧ LaC G tp w M a0 X_La_readProduct 5 2 n ∧ LaL G tp w M a0 X_La_readProduct 6 2 [] n ∧ LaC G tp w M a0 X_La_readPart 7 1 n
  | 0 => ⟨fun e i σ S dd Q h => by omega, fun e i c σ S dd Q h => by omega, fun e i σ S dd Q h => by omega, fun e i σ S dd Q h => by omega, fun e i c σ S dd Q h => by omega, fun e i σ S dd Q h => by omega, fun e i c σ S dd Q h => by omega, fun e i σ S dd Q h => by omega⟩
  | n + 1 => by
    obtain ⟨i0, i1, i2, i3, i4, i5, i6, i7⟩ := La_all hM hM1 hw hw3 ha n
    exact ⟨La_chainC hM ha i2 i1, La_chainL hM hM1 hw ha i2 i1, La_testC hM hM1 hw ha i3, La_sumC hM ha i5 i4, La_sumL hM hM1 hw ha i5 i4, La_prodC hM ha i7 i6, La_prodL hM hM1 hw ha i7 i6, La_partC hM hM1 hw hw3 ha i0 i7⟩
end CEXPR3
