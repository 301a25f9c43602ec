section TOWN
variable {G : q_G} {d : Nat} {σ : q_S} {Q : Option Value → q_S → Prop} {t h : Nat} {D hm : Nat → Nat} {P : Nat → List Int32}
theorem HM.lt6 {f : Nat} (hD : WfD D) (hh : HM σ h D hm) (hf : f < D 1) : hm f < 6 := Nat.lt_of_lt_of_le (hh f hf).2 hD.2.1
theorem WfD.F6 (hD : WfD D) : D 1 ≤ 6 := Nat.le_trans hD.1 hD.2.1
theorem Tw_thick_ok {f e : Nat} (ht : q_isTw t) (hp : q_kd h = (1, 6)) (hs : q_Sh σ) (hD : WfD D) (hT : CT0 σ t D P) (hh : HM σ h D hm) (hf : f < D 1) (he : e < D 1) (hq : Q (some (.int (nI (thk D hm f e)))) σ) : q_Call G (d + 1) 0 0 X_Tw_thickBetween [.ref t, .ref h, .int (nI f), .int (nI e)] σ Q := by
  refine q_ci (by decide +kernel) (Nat.le_of_ble_eq_true rfl) (fun Q hq => ?_) hq
  have h6 := hD.F6
  have g1 := hh.lt6 hD hf
  have g2 := hh.lt6 hD he
  refine v_Tw_thickBetween_0 ht hp hs ⟨f, rfl, by omega, e, rfl, by omega, hm f * 6 + hm e, ?_, by omega, ?_⟩
  · rw [(hh f hf).1, (hh e he).1, q_mul6]
  · rw [hT.2.1 _ (by omega)]
    exact hq
theorem Tw_near_ok {f e : Nat} (ht : q_isTw t) (hp : q_kd h = (1, 6)) (hs : q_Sh σ) (hD : WfD D) (hT : CT0 σ t D P) (hh : HM σ h D hm) (hf : f < D 1) (he : e < D 1) (hq : Q (some (.int (if thk D hm f e = 0 then 0 else 1))) σ) : q_Call G (d + 2) 0 0 X_Tw_areNeighbours [.ref t, .ref h, .int (nI f), .int (nI e)] σ Q := by
  refine q_ci (by decide +kernel) (Nat.le_of_ble_eq_true rfl) (fun Q hq => ?_) hq
  refine v_Tw_areNeighbours_0 ht hp hs (Tw_thick_ok ht hp hs hD hT hh hf he ⟨hs, _, rfl, q_nb10, ?_⟩)
  have h9 : thk D hm f e ≤ 9 := hD.2.2.2.2.2.2.1 _ (by have := hh.lt6 hD hf; have := hh.lt6 hD he; omega)
  have e1 : (nI (thk D hm f e) = 0) ↔ thk D hm f e = 0 := by rw [← nI_0]; exact nI_eq (by omega) (by omega)
  simp only [e1]
  exact hq
theorem Tw_place_ok {f e k : Nat} (hs : q_Sh σ) (hq : Q (some (.int (nI ((f * 6 + e) * 10 + k)))) σ) : q_Call G (d + 1) 0 0 X_Tw_heardPlace [.int (nI f), .int (nI e), .int (nI k)] σ Q := by
  refine q_ci (by decide +kernel) (Nat.le_of_ble_eq_true rfl) (fun Q hq => ?_) hq
  refine v_Tw_heardPlace_0 hs ?_
  rw [q_mul6, q_lit 10, pk_mul, nI_add]
  exact hq
theorem Tw_loud_ok {f : Nat} (ht : q_isTw t) (hs : q_Sh σ) (hD : WfD D) (hT : CT0 σ t D P) (hf : f < D 1) (hq : Q (some (.int (loud D f))) σ) : q_Call G (d + 1) 0 0 X_Tw_loudness [.ref t, .int (nI f)] σ Q := by
  refine q_ci (by decide +kernel) (Nat.le_of_ble_eq_true rfl) (fun Q hq => ?_) hq
  have h6 := hD.F6
  obtain ⟨g1, g2, g3, g4⟩ := hT.2.2.1 f hf
  have k3 : D (44 + 4 * f) ≤ 3 := (hD.2.2.2.2.2.2.2.1 f (by omega)).1
  have e1 : (nI (D (44 + 4 * f)) = 1) ↔ D (44 + 4 * f) = 1 := nI_eq (b := 1) (by omega) (by omega)
  refine v_Tw_loudness_0 ht hs ⟨f, rfl, by omega, fun c => ⟨f, rfl, by omega, ?_⟩, fun c => ⟨f, rfl, by omega, ?_⟩⟩
  · rw [g1, e1] at c
    rw [g2]
    rw [loud, if_neg c] at hq
    exact hq
  · rw [g1, e1] at c
    rw [g2, q_lit 2, pk_mul]
    rw [loud, if_pos c] at hq
    exact hq
theorem Tw_hear_ok {f : Nat} (ht : q_isTw t) (hs : q_Sh σ) (hD : WfD D) (hT : CT0 σ t D P) (hf : f < D 1) (hq : Q (some (.int (hear D f))) σ) : q_Call G (d + 1) 0 0 X_Tw_hearing [.ref t, .int (nI f)] σ Q := by
  refine q_ci (by decide +kernel) (Nat.le_of_ble_eq_true rfl) (fun Q hq => ?_) hq
  have h6 := hD.F6
  obtain ⟨g1, g2, g3, g4⟩ := hT.2.2.1 f hf
  have k3 : D (44 + 4 * f) ≤ 3 := (hD.2.2.2.2.2.2.2.1 f (by omega)).1
  have e1 : (nI (D (44 + 4 * f)) = 2) ↔ D (44 + 4 * f) = 2 := nI_eq (b := 2) (by omega) (by omega)
  refine v_Tw_hearing_0 ht hs ⟨f, rfl, by omega, fun c => ⟨f, rfl, by omega, ?_⟩, fun c => ?_⟩
  · rw [g1, e1] at c
    rw [g3]
    rw [hear, if_neg c] at hq
    exact hq
  · rw [g1, e1] at c
    rw [hear, if_pos c] at hq
    exact hq
theorem Tw_fond_ok {f e : Nat} (ht : q_isTw t) (hs : q_Sh σ) (hD : WfD D) (hT : CT0 σ t D P) (hf : f < D 1) (he : e < D 1) (hq : Q (some (.int (fond D f e))) σ) : q_Call G (d + 1) 0 0 X_Tw_fondness [.ref t, .int (nI f), .int (nI e)] σ Q := by
  refine q_ci (by decide +kernel) (Nat.le_of_ble_eq_true rfl) (fun Q hq => ?_) hq
  have h6 := hD.F6
  obtain ⟨g1, g2, g3⟩ := hT.2.2.2.1 (f * 6 + e) (by omega)
  refine v_Tw_fondness_0 ht hs ⟨f * 6 + e, q_mul6 _ _, by omega, f * 6 + e, q_mul6 _ _, by omega, ?_⟩
  rw [g1, g2]
  exact hq
theorem W_within_ok {lo hi v : Int32} (hs : q_Sh σ) (hlh : lo ≤ hi) (hq : Q (some (.int (clmp lo hi v))) σ) : q_Call G (d + 1) 0 0 X_W_within [.int lo, .int v, .int hi] σ Q := by
  refine q_ci (by decide +kernel) (Nat.le_of_ble_eq_true rfl) (fun Q hq => ?_) hq
  refine v_W_within_0 hs ?_
  have e1 : (if lo < (if hi < v then hi else v) then (if hi < v then hi else v) else lo) = clmp lo hi v := by
    unfold clmp
    by_cases h1 : v < lo
    · have h2 : ¬ hi < v := fun h => by
        have := Int32.lt_of_le_of_lt hlh h
        exact Int32.lt_irrefl (Int32.lt_trans this h1)
      rw [if_pos h1, if_neg h2, if_neg (fun h => Int32.lt_irrefl (Int32.lt_trans h h1))]
    · rw [if_neg h1]
      by_cases h2 : hi < v
      · rw [if_pos h2]
        by_cases h3 : lo < hi
        · rw [if_pos h3]
        · rw [if_neg h3]
          exact Int32.le_antisymm hlh (Int32.not_lt.mp h3)
      · rw [if_neg h2]
        by_cases h3 : lo < v
        · rw [if_pos h3]
        · rw [if_neg h3]
          exact Int32.le_antisymm (Int32.not_lt.mp h1) (Int32.not_lt.mp h3)
  rw [e1]
  exact hq
theorem W_pairBit_ok {f e : Nat} (hs : q_Sh σ) (hf : f < 6) (he : e < 6) (hq : Q (some (.long (pbit f e))) σ) : q_Call G (d + 1) 0 0 X_W_pairBit [.int (nI f), .int (nI e)] σ Q := by
  refine q_cl64 (by decide +kernel) (Nat.le_of_ble_eq_true rfl) (fun Q hq => ?_) hq
  refine v_W_pairBit_0 hs ?_
  have e1 : (nI e < nI f) ↔ e < f := nI_ltI (by omega) (by omega)
  have e2 : (nI f < nI e) ↔ f < e := nI_ltI (by omega) (by omega)
  have e3 : (if nI e < nI f then nI e else nI f) * 6 + (if nI f < nI e then nI e else nI f) = nI ((if e < f then e else f) * 6 + (if f < e then e else f)) := by
    simp only [e1, e2]
    rw [← q_mul6]
    congr 1
    · split <;> rfl
    · split <;> rfl
  rw [e3]
  exact hq

theorem Tw_felt_ok {f : Nat} (ht : q_isTw t) (hp : q_kd h = (1, 6)) (hs : q_Sh σ) (hD : WfD D) (hT : CT σ t D P) (hh : HM σ h D hm) (hf : f < D 1) (hq : Q (some (.int (felt D hm P f))) σ) : q_Call G (d + 2) 0 0 X_Tw_feltBy [.ref t, .ref h, .int (nI f)] σ Q := by
  refine q_ci (by decide +kernel) (Nat.le_of_ble_eq_true rfl) (fun Q hq => ?_) hq
  have h6 := hD.F6
  refine v_Tw_feltBy_0 ht hp hs ?_
  have loop : ∀ n k, k + n = D 1 → q_At G X_Tw_feltBy (d + 2) 0 0 5 [some (.ref t), some (.ref h), some (.int (nI f)), some (.int (bx_sum (fun e => if thk D hm f e = 0 then 0 else nz D P f e (thk D hm f e)) k)), some (.int (nI k)), none] [] σ Q := by
    intro n
    induction n with
    | zero =>
      intro k hk
      have hk : k = D 1 := by omega
      subst hk
      refine v_Tw_feltBy_5 ht hs ⟨fun _ => hq, fun c => absurd ?_ c⟩
      rw [hT.1.1.2.1]
      exact Int32.le_refl _
    | succ n ih =>
      intro k hk
      refine v_Tw_feltBy_5 ht hs ⟨fun c => ?_, fun _ => ?_⟩
      · rw [hT.1.1.2.1] at c
        exact absurd c (nI_ge (by omega) (by omega))
      · have h9 : thk D hm f k ≤ 9 := hD.2.2.2.2.2.2.1 _ (by have := hh.lt6 hD hf; have := hh.lt6 hD (show k < D 1 by omega); omega)
        have e1 : (nI (thk D hm f k) = 0) ↔ thk D hm f k = 0 := by rw [← nI_0]; exact nI_eq (by omega) (by omega)
        have ih2 := ih (k + 1) (by omega)
        rw [bx_sum, ← nI_1] at ih2
        refine Tw_thick_ok ht hp hs hD hT.1 hh hf (by omega) ⟨hs, _, rfl, fun c => ?_, fun c => ?_⟩
        · rw [e1] at c
          rw [if_pos c, Int32.add_zero] at ih2
          exact ih2
        · rw [e1] at c
          rw [if_neg c] at ih2
          refine Tw_place_ok hs ⟨hs, _, rfl, (f * 6 + k) * 10 + thk D hm f k, rfl, by omega, ?_⟩
          rw [hT.2 f k _ hf (by omega) (by omega) h9]
          exact ih2
  exact loop (D 1) 0 (by omega)
theorem Tw_joy_open {f : Nat} (ht : q_isTw t) (hp : q_kd h = (1, 6)) (hs : q_Sh σ) (hD : WfD D) (hT : CT σ t D P) (hh : HM σ h D hm) (hf : f < D 1)
    (hv : ∀ (a b c : Int32) (Q : Option Value → q_S → Prop), (∀ σ', q_Sh σ' → Q (some (.int (vl P 1 a b c))) σ') → True) : True := trivial
end TOWN
