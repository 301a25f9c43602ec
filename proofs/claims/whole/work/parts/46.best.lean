-- the best of the ways
def bst (bt : (Nat → Nat) → Option (Nat → Nat) → Bool) (ws : List (Nat → Nat)) : Nat → Option (Nat → Nat)
  | 0 => none
  | k + 1 => match ws[k]? with
    | some w => if bt w (bst bt ws k) then some w else bst bt ws k
    | none => bst bt ws k
theorem bst_s {bt : (Nat → Nat) → Option (Nat → Nat) → Bool} {ws : List (Nat → Nat)} {k : Nat} {w : Nat → Nat} (h : ws[k]? = some w) : bst bt ws (k + 1) = if bt w (bst bt ws k) then some w else bst bt ws k := by rw [bst, h]
theorem bst_mem {bt : (Nat → Nat) → Option (Nat → Nat) → Bool} {ws : List (Nat → Nat)} {b : Nat → Nat} : ∀ k, bst bt ws k = some b → b ∈ ws
  | 0, h => by rw [bst] at h; exact absurd h (by simp)
  | k + 1, h => by
    rw [bst] at h
    split at h
    · next w hw =>
      split at h
      · rw [Option.some.inj h] at hw; exact List.mem_of_getElem? hw
      · exact bst_mem k h
    · exact bst_mem k h
def Bi (ws : List (Nat → Nat)) (o : Option (Nat → Nat)) (x : Int32) : Prop := (o = none ∧ x = -1) ∨ ∃ (j : Nat) (b : Nat → Nat), ws[j]? = some b ∧ o = some b ∧ x = nI j
def ncN (D hm : Nat → Nat) (P : Nat → List Int32) : Nat → Nat
  | 0 => 0
  | n + 1 => ncN D hm P n + (if 0 ≤ joyv D hm P n then 1 else 0)
theorem ncN_le {D hm : Nat → Nat} {P : Nat → List Int32} : ∀ n, ncN D hm P n ≤ n
  | 0 => Nat.le_refl 0
  | n + 1 => by
    have := ncN_le (D := D) (hm := hm) (P := P) n
    rw [ncN]
    split <;> omega
theorem nc_N {D hm : Nat → Nat} {P : Nat → List Int32} : ∀ n, ncont D hm P n = nI (ncN D hm P n)
  | 0 => rfl
  | n + 1 => by
    have ih := nc_N (D := D) (hm := hm) (P := P) n
    unfold ncont at ih ⊢
    rw [bx_sum, ih, ncN]
    split
    · rw [nI_1]
    · rw [Int32.add_zero, Nat.add_zero]
def qsN (D w : Nat → Nat) (P : Nat → List Int32) : Nat → Nat
  | 0 => 0
  | n + 1 => qsN D w P n + fltN D w P n
theorem qs_N {D w : Nat → Nat} {P : Nat → List Int32} : ∀ n, qsm D w P n = nI (qsN D w P n)
  | 0 => rfl
  | n + 1 => by
    have ih := qs_N (D := D) (w := w) (P := P) n
    unfold qsm at ih ⊢
    rw [bx_sum, ih, qsN, felt_N, nI_add]
theorem qsN_le {D w : Nat → Nat} {P : Nat → List Int32} (hD : WfD D) (hw : ∀ f, f < D 1 → w f < D 0) : ∀ n, n ≤ D 1 → qsN D w P n ≤ 512 * n
  | 0, _ => Nat.le_refl 0
  | n + 1, hn => by
    have := qsN_le (P := P) hD hw n (by omega)
    have := felt_lt (P := P) hD hw (show n < D 1 by omega)
    rw [qsN]
    omega
def mdB (D hm : Nat → Nat) (w : Nat → Nat) (o : Option (Nat → Nat)) : Bool := decide (brk D w = 0) && (match o with
  | none => true
  | some b => decide (swc hm w (D 1) (D 1) < swc hm b (D 1) (D 1)))
def plB (D hm : Nat → Nat) (P : Nat → List Int32) (w : Nat → Nat) (o : Option (Nat → Nat)) : Bool := match o with
  | none => true
  | some b => decide (ncN D b P (D 1) < ncN D w P (D 1)) || (decide (ncN D b P (D 1) = ncN D w P (D 1)) && decide (swc hm w (D 1) (D 1) < swc hm b (D 1) (D 1)))
def quB (D : Nat → Nat) (P : Nat → List Int32) (w : Nat → Nat) (o : Option (Nat → Nat)) : Bool := match o with
  | none => true
  | some b => decide (qsN D w P (D 1) < qsN D b P (D 1))
theorem sub_neg {a b : Nat} (ha : a < 2 ^ 30) (hb : b < 2 ^ 30) : (nI a - nI b < 0) ↔ a < b := by
  rw [Int32.lt_iff_toInt_lt, pk_sub_toInt ha hb]
  show ((a : Int) - b < 0) ↔ _
  omega
theorem sub_pos {a b : Nat} (ha : a < 2 ^ 30) (hb : b < 2 ^ 30) : (0 < nI a - nI b) ↔ b < a := by
  rw [Int32.lt_iff_toInt_lt, pk_sub_toInt ha hb]
  show ((0 : Int) < (a : Int) - b) ↔ _
  omega
section BEST
variable {G : q_G} {d : Nat} {σ : q_S} {Q : Option Value → q_S → Prop} {t h f k : Nat} {D hm w : Nat → Nat} {P : Nat → List Int32} {ws : List (Nat → Nat)}
theorem get_some (hk : k < ws.length) : ∃ w, ws[k]? = some w := ⟨ws[k], List.getElem?_eq_getElem hk⟩
theorem nm1 (n : Nat) (h : n < 2 ^ 31) : ¬ nI n = -1 := fun e => absurd (e ▸ (by decide : (-1 : Int32) < 0)) (nI_pos h)
theorem Wy_mend_ok (ht : q_isTw t) (hp : q_kd h = (1, 6)) (hs : q_Sh σ) (hD : WfD D) (hT : CT0 σ t D P) (hh : HM σ h D hm) (hi : Inj (D 1) hm) (hW : WyD σ D P (wys D)) (hq : ∀ x, Bi (wys D) (bst (mdB D hm) (wys D) (wys D).length) x → Q (some (.int x)) σ) : q_Call G (d + 4) 0 0 X_Wy_firstMending [.ref 5, .ref t, .ref h] σ Q := by
  have hl := (wys_len hD).1
  have h6 := hD.F6
  refine q_cii (Pp := fun x σ' => Bi (wys D) (bst (mdB D hm) (wys D) (wys D).length) x ∧ σ' = σ) (by decide +kernel) (Nat.le_of_ble_eq_true rfl) (fun Q hq => ?_) (fun x σ' hx => by rw [hx.2]; exact hq x hx.1)
  refine v_Wy_firstMending_0 ht hp hs ?_
  refine up_ind (R := fun k => ∀ (x y : Int32), Bi (wys D) (bst (mdB D hm) (wys D) k) x → (∀ b, bst (mdB D hm) (wys D) k = some b → y = nI (swc hm b (D 1) (D 1))) → q_At G X_Wy_firstMending (d + 4) 0 0 8 [some (.ref 5), some (.ref t), some (.ref h), some (.int x), some (.int y), some (.int (nI k)), none] [] σ Q) (n := (wys D).length) (fun x y g1 g2 => ?_) (fun k hk ih x y g1 g2 => ?_) 0 (Nat.zero_le _) _ _ (Or.inl ⟨rfl, rfl⟩) (fun b e => by rw [bst] at e; exact absurd e (by simp))
  · exact v_Wy_firstMending_8 ht hs ⟨fun _ => hq _ _ ⟨g1, rfl⟩, fun c => absurd (by rw [hW.2.1]; exact Int32.le_refl _) c⟩
  · obtain ⟨w, hw⟩ := get_some hk
    have hwo := wys_ok (List.mem_of_getElem? hw)
    have eb := bst_s (bt := mdB D hm) hw
    refine v_Wy_firstMending_8 ht hs ⟨fun c => by rw [hW.2.1] at c; exact ge_not c hk (by omega), fun _ => ⟨k, rfl, by omega, ?_⟩⟩
    rw [(hW.2.2.1 k w hw).2.2.1]
    refine Tw_broken_ok ht hs hD hT ⟨hs, _, rfl, fun c => ?_, fun c => ?_⟩
    · rw [brkm_prs hD hwo.1] at c
      have e0 : mdB D hm w (bst (mdB D hm) (wys D) k) = false := by simp [mdB, c]
      rw [e0] at eb
      rw [nI_1]
      exact ih x y (by rw [eb]; exact g1) (by rw [eb]; exact g2)
    · rw [brkm_prs hD hwo.1] at c
      have sl : ∀ v, swc hm v (D 1) (D 1) < 2 ^ 31 := fun v => by have := swc_le (hm := hm) (w := v) (F := D 1) (D 1); omega
      refine Wy_swaps_ok (d := d) ht hp hs hD hT hh hi hW hl hw hwo.1 ⟨hs, _, rfl, fun c1 => ?_, fun c1 => ⟨fun c2 => ?_, fun c2 => ?_⟩⟩
      · have e0 : mdB D hm w (bst (mdB D hm) (wys D) k) = true := by
          rcases g1 with ⟨o, _⟩ | ⟨j, b, a1, a2, a3⟩
          · rw [o]; simp [mdB, c]
          · rw [a3] at c1
            exact absurd c1 (nm1 j (by have := get_lt a1; omega))
        rw [e0] at eb
        rw [nI_1]
        exact ih _ _ (by rw [eb]; exact Or.inr ⟨k, w, hw, rfl, rfl⟩) (fun b e => by rw [eb] at e; rw [← Option.some.inj e])
      · rcases g1 with ⟨o, e1⟩ | ⟨j, b, a1, a2, a3⟩
        · exact absurd e1 c1
        · have y0 := g2 b a2
          rw [y0, nI_leI (sl b) (sl w)] at c2
          have e0 : mdB D hm w (bst (mdB D hm) (wys D) k) = false := by
            rw [a2]; simp [mdB, c]; omega
          rw [e0] at eb
          rw [nI_1]
          exact ih x y (by rw [eb]; exact Or.inr ⟨j, b, a1, a2, a3⟩) (by rw [eb]; exact g2)
      · rcases g1 with ⟨o, e1⟩ | ⟨j, b, a1, a2, a3⟩
        · exact absurd e1 c1
        · have y0 := g2 b a2
          rw [y0, nI_leI (sl b) (sl w)] at c2
          have e0 : mdB D hm w (bst (mdB D hm) (wys D) k) = true := by
            rw [a2]; simp [mdB, c]; omega
          rw [e0] at eb
          rw [nI_1]
          exact ih _ _ (by rw [eb]; exact Or.inr ⟨k, w, hw, rfl, rfl⟩) (fun b e => by rw [eb] at e; rw [← Option.some.inj e])
theorem Wy_please_ok (ht : q_isTw t) (hp : q_kd h = (1, 6)) (hs : q_Sh σ) (hD : WfD D) (hT : CT0 σ t D P) (hh : HM σ h D hm) (hi : Inj (D 1) hm) (hW : WyD σ D P (wys D)) (hq : ∀ x, Bi (wys D) (bst (plB D hm P) (wys D) (wys D).length) x → Q (some (.int x)) σ) : q_Call G (d + 4) 0 0 X_Wy_firstPleasing [.ref 5, .ref t, .ref h] σ Q := by
  have hl := (wys_len hD).1
  have h6 := hD.F6
  refine q_cii (Pp := fun x σ' => Bi (wys D) (bst (plB D hm P) (wys D) (wys D).length) x ∧ σ' = σ) (by decide +kernel) (Nat.le_of_ble_eq_true rfl) (fun Q hq => ?_) (fun x σ' hx => by rw [hx.2]; exact hq x hx.1)
  refine v_Wy_firstPleasing_0 ht hp hs ?_
  refine up_ind (R := fun k => ∀ (x y : Int32), Bi (wys D) (bst (plB D hm P) (wys D) k) x → (∀ b, bst (plB D hm P) (wys D) k = some b → y = nI (swc hm b (D 1) (D 1))) → q_At G X_Wy_firstPleasing (d + 4) 0 0 8 [some (.ref 5), some (.ref t), some (.ref h), some (.int x), some (.int y), some (.int (nI k)), none, none] [] σ Q) (n := (wys D).length) (fun x y g1 g2 => ?_) (fun k hk ih x y g1 g2 => ?_) 0 (Nat.zero_le _) _ _ (Or.inl ⟨rfl, rfl⟩) (fun b e => by rw [bst] at e; exact absurd e (by simp))
  · exact v_Wy_firstPleasing_8 hs ⟨fun _ => hq _ _ ⟨g1, rfl⟩, fun c => absurd (by rw [hW.2.1]; exact Int32.le_refl _) c⟩
  · obtain ⟨w, hw⟩ := get_some hk
    have hwo := wys_ok (List.mem_of_getElem? hw)
    have eb := bst_s (bt := plB D hm P) hw
    have sl : ∀ v, swc hm v (D 1) (D 1) < 2 ^ 30 := fun v => by have := swc_le (hm := hm) (w := v) (F := D 1) (D 1); omega
    have cl : ∀ v, ncN D v P (D 1) < 2 ^ 30 := fun v => by have := ncN_le (D := D) (hm := v) (P := P) (D 1); omega
    have take : plB D hm P w (bst (plB D hm P) (wys D) k) = true → q_At G X_Wy_firstPleasing (d + 4) 0 0 8 [some (.ref 5), some (.ref t), some (.ref h), some (.int (nI k)), some (.int (nI (swc hm w (D 1) (D 1)))), some (.int (nI (k + 1))), none, none] [] σ Q := fun e0 => by
      rw [e0] at eb
      exact ih _ _ (by rw [eb]; exact Or.inr ⟨k, w, hw, rfl, rfl⟩) (fun b e => by rw [eb] at e; rw [← Option.some.inj e])
    have keep : plB D hm P w (bst (plB D hm P) (wys D) k) = false → q_At G X_Wy_firstPleasing (d + 4) 0 0 8 [some (.ref 5), some (.ref t), some (.ref h), some (.int x), some (.int y), some (.int (nI (k + 1))), none, none] [] σ Q := fun e0 => by
      rw [e0] at eb
      exact ih _ _ (by rw [eb]; exact g1) (by rw [eb]; exact g2)
    refine v_Wy_firstPleasing_8 hs ⟨fun c => by rw [hW.2.1] at c; exact ge_not c hk (by omega), fun _ => ⟨k, rfl, by omega, ?_⟩⟩
    rw [(hW.2.2.1 k w hw).2.2.2, nc_N, nI_1]
    rcases g1 with ⟨o, e1⟩ | ⟨j, b, a1, a2, a3⟩
    · subst e1
      refine Wy_content_no (d := d + 2) hs ⟨hs, _, rfl, fun _ => ?_, fun c => absurd rfl c⟩
      refine Wy_swaps_ok (d := d) ht hp hs hD hT hh hi hW hl hw hwo.1 ⟨hs, _, rfl, fun _ => ?_, fun c => absurd rfl c⟩
      exact take (by rw [o]; rfl)
    · subst a3
      have jl := get_lt a1
      have n1 := nm1 j (by omega)
      have y0 := g2 b a2
      refine Wy_content_ok (d := d + 2) hs hW hl a1 ⟨hs, _, rfl, fun c => absurd c n1, fun _ => ⟨fun c2 => ?_, fun c2 => ?_⟩⟩
      · rw [nc_N, sub_neg (cl w) (cl b)] at c2
        refine keep ?_
        rw [a2]
        simp [plB]
        omega
      · rw [nc_N, sub_neg (cl w) (cl b)] at c2
        refine Wy_swaps_ok (d := d) ht hp hs hD hT hh hi hW hl hw hwo.1 ⟨hs, _, rfl, fun c => absurd c n1, fun _ => ⟨fun c3 => ?_, fun c3 => ⟨fun c4 => ?_, fun c4 => ?_⟩⟩⟩
        · rw [nc_N, sub_pos (cl w) (cl b)] at c3
          refine take ?_
          rw [a2]
          simp [plB]
          omega
        · rw [nc_N, sub_pos (cl w) (cl b)] at c3
          rw [y0, nI_leI (by have := sl b; omega) (by have := sl w; omega)] at c4
          refine keep ?_
          rw [a2]
          simp [plB]
          omega
        · rw [nc_N, sub_pos (cl w) (cl b)] at c3
          rw [y0, nI_leI (by have := sl b; omega) (by have := sl w; omega)] at c4
          refine take ?_
          rw [a2]
          simp [plB]
          omega
theorem Wy_quiet_ok (hs : q_Sh σ) (hD : WfD D) (hW : WyD σ D P (wys D)) (hq : ∀ x, Bi (wys D) (bst (quB D P) (wys D) (wys D).length) x → Q (some (.int x)) σ) : q_Call G (d + 3) 0 0 X_Wy_firstQuiet [.ref 5] σ Q := by
  have hl := (wys_len hD).1
  have h0 := (wys_len hD).2
  have h6 := hD.F6
  refine q_cii (Pp := fun x σ' => Bi (wys D) (bst (quB D P) (wys D) (wys D).length) x ∧ σ' = σ) (by decide +kernel) (Nat.le_of_ble_eq_true rfl) (fun Q hq => ?_) (fun x σ' hx => by rw [hx.2]; exact hq x hx.1)
  refine v_Wy_firstQuiet_0 hs ?_
  have ql : ∀ v, v ∈ wys D → qsN D v P (D 1) < 2 ^ 31 := fun v hv => by have := qsN_le (P := P) hD (wys_ok hv).1 (D 1) (Nat.le_refl _); omega
  obtain ⟨w0, hw0⟩ := get_some h0
  have b1 : bst (quB D P) (wys D) 1 = some w0 := by rw [bst_s hw0]; rfl
  refine up_ind (R := fun k => 1 ≤ k → ∀ (j : Nat) (b : Nat → Nat), (wys D)[j]? = some b → bst (quB D P) (wys D) k = some b → q_At G X_Wy_firstQuiet (d + 3) 0 0 4 [some (.ref 5), some (.int (nI j)), some (.int (nI k))] [] σ Q) (n := (wys D).length) (fun _ j b g1 g2 => ?_) (fun k hk ih h1 j b g1 g2 => ?_) 1 h0 (Nat.le_refl 1) 0 w0 hw0 b1
  · exact v_Wy_firstQuiet_4 hs ⟨fun _ => hq _ _ ⟨Or.inr ⟨j, b, g1, g2, rfl⟩, rfl⟩, fun c => absurd (by rw [hW.2.1]; exact Int32.le_refl _) c⟩
  · obtain ⟨w, hw⟩ := get_some hk
    have hwo := wys_ok (List.mem_of_getElem? hw)
    have hbo := wys_ok (List.mem_of_getElem? g1)
    have eb := bst_s (bt := quB D P) hw
    rw [g2] at eb
    refine v_Wy_firstQuiet_4 hs ⟨fun c => by rw [hW.2.1] at c; exact ge_not c hk (by omega), fun _ => ?_⟩
    refine Wy_feltAll_ok (d := d) hs hD hW hl hw hwo.1 ⟨hs, _, rfl, ?_⟩
    refine Wy_feltAll_ok (d := d) hs hD hW hl g1 hbo.1 ⟨hs, _, rfl, fun c => ?_, fun c => ?_⟩
    · rw [qs_N, qs_N, nI_leI (ql _ (List.mem_of_getElem? g1)) (ql _ (List.mem_of_getElem? hw))] at c
      rw [if_neg (by simp [quB]; omega)] at eb
      rw [nI_1]
      exact ih (by omega) j b g1 eb
    · rw [qs_N, qs_N, nI_leI (ql _ (List.mem_of_getElem? g1)) (ql _ (List.mem_of_getElem? hw))] at c
      rw [if_pos (by simp [quB]; omega)] at eb
      rw [nI_1]
      exact ih (by omega) k w hw eb
end BEST
