-- scratch of the reference's readers: its facts and its pile
def Sm : Nat → Nat → Prop := fun a _ => a = 173 ∨ a = 174
theorem Sp_Sm {a i : Nat} (h : Sp a i) : Sm a i := Or.inr h
-- the reference's row of homes at b
def HB (σ : q_S) (b : Nat) (D hm : Nat → Nat) : Prop := ∀ f, f < D 1 → q_I σ 175 (b + f) = nI (hm f) ∧ hm f < D 0
theorem MC.keep {σ σ' : q_S} {w s : Nat} {p : List Int32} (h : MC σ w s p) (h6 : ∀ i, q_I σ' 166 i = q_I σ 166 i) (h7 : ∀ i, q_I σ' 167 i = q_I σ 167 i) : MC σ' w s p := ⟨fun j hj => by rw [h6, h7]; exact h.1 j hj, by rw [h6]; exact h.2.1, h.2.2⟩
theorem MT0.keep {σ σ' : q_S} {D : Nat → Nat} {P : Nat → List Int32} (h : MT0 σ D P) (h5 : ∀ i, i < 200 → q_I σ' 165 i = q_I σ 165 i) (h6 : ∀ i, q_I σ' 166 i = q_I σ 166 i) (h7 : ∀ i, q_I σ' 167 i = q_I σ 167 i) : MT0 σ' D P := by
  refine ⟨fun i hi hn => by rw [h5 i hi]; exact h.1 i hi hn, fun w hw => ?_⟩
  rcases h.2 w hw with ⟨g1, g2⟩ | ⟨s, g1, g2⟩
  · exact Or.inl ⟨by rw [h5 _ (by omega)]; exact g1, g2⟩
  · exact Or.inr ⟨s, by rw [h5 _ (by omega)]; exact g1, g2.keep h6 h7⟩
theorem MT.keep {σ σ' : q_S} {D : Nat → Nat} {P : Nat → List Int32} (h : MT σ D P) (h5 : ∀ i, i < 200 → q_I σ' 165 i = q_I σ 165 i) (h6 : ∀ i, q_I σ' 166 i = q_I σ 166 i) (h7 : ∀ i, q_I σ' 167 i = q_I σ 167 i) (h8 : ∀ i, q_I σ' 177 i = q_I σ 177 i) : MT σ' D P := ⟨h.1.keep h5 h6 h7, fun f e k a1 a2 a3 => by rw [h8]; exact h.2 f e k a1 a2 a3⟩
theorem MT0.sm {σ σ' : q_S} {D : Nat → Nat} {P : Nat → List Int32} (h : MT0 σ D P) (hf : Fr Sm noL σ σ') : MT0 σ' D P := h.keep (fun i _ => hf.2.2.1 _ _ (by simp [Sm])) (fun i => hf.2.2.1 _ _ (by simp [Sm])) (fun i => hf.2.2.1 _ _ (by simp [Sm]))
theorem MT.sm {σ σ' : q_S} {D : Nat → Nat} {P : Nat → List Int32} (h : MT σ D P) (hf : Fr Sm noL σ σ') : MT σ' D P := h.keep (fun i _ => hf.2.2.1 _ _ (by simp [Sm])) (fun i => hf.2.2.1 _ _ (by simp [Sm])) (fun i => hf.2.2.1 _ _ (by simp [Sm])) (fun i => hf.2.2.1 _ _ (by simp [Sm]))
theorem HB.sm {σ σ' : q_S} {b : Nat} {D hm : Nat → Nat} (h : HB σ b D hm) (hf : Fr Sm noL σ σ') : HB σ' b D hm := fun f hlt => ⟨by rw [hf.2.2.1 _ _ (by simp [Sm])]; exact (h f hlt).1, (h f hlt).2⟩
theorem Sp.sm {σ σ' : q_S} (hf : Fr Sp noL σ σ') : Fr Sm noL σ σ' := hf.mono (fun _ _ h => Sp_Sm h) (fun _ _ h => h)
section MOD3
variable {G : q_G} {d : Nat} {σ : q_S} {Q : Option Value → q_S → Prop} {D hm : Nat → Nat} {P : Nat → List Int32} {b : Nat}
theorem MT0.F (h : MT0 σ D P) : q_I σ 165 1 = nI (D 1) := h.1 1 (by decide) (by decide)
theorem MT0.H (h : MT0 σ D P) : q_I σ 165 0 = nI (D 0) := h.1 0 (by decide) (by decide)
theorem M_wallBy_ok {f e : Nat} (hs : q_Sh σ) (hD : WfD D) (hT : MT0 σ D P) (hh : HB σ b D hm) (hb : b + 6 ≤ 1886) (hf : f < D 1) (he : e < D 1) (hq : Q (some (.int (nI (thk D hm f e)))) σ) : q_Call G d 0 0 X_M_wallBy [.ref 159, .int (nI b), .int (nI f), .int (nI e)] σ Q := by
  refine q_ci (by decide +kernel) (Nat.le_of_ble_eq_true rfl) (fun Q hq => ?_) hq
  have h6 := hD.F6
  have hH := hD.2.1
  have g1 := (hh f hf).2
  have g2 := (hh e he).2
  refine v_M_wallBy_0 hs ⟨b + f, by rw [Int32.add_zero, nI_add], by omega, b + e, by rw [Int32.add_zero, nI_add], by omega, 8 + (hm f * 6 + hm e), ?_, by omega, ?_⟩
  · rw [(hh f hf).1, (hh e he).1, q_lit 8, q_lit 6, pk_mul, nI_add, nI_add]
    congr 1
    omega
  · rw [hT.1 _ (by omega) (by omega)]
    exact hq
theorem le0_iff {n : Nat} (h : n < 2 ^ 31) : (nI n ≤ 0) ↔ n = 0 := by
  rw [← nI_0, nI_leI h (by omega)]
  omega
theorem thk_le {f e : Nat} (hD : WfD D) (h1 : hm f < D 0) (h2 : hm e < D 0) : thk D hm f e ≤ 9 := hD.2.2.2.2.2.2.1 _ (by have := hD.2.1; omega)
theorem thk_self {f : Nat} (hD : WfD D) (h1 : hm f < D 0) : thk D hm f f = 0 := hD.2.2.2.2.1 _ (by have := hD.2.1; omega)
theorem M_felt_ok {f : Nat} (hs : q_Sh σ) (hD : WfD D) (hT : MT σ D P) (hh : HB σ b D hm) (hb : b + 6 ≤ 1886) (hf : f < D 1) (hq : Q (some (.int (felt D hm P f))) σ) : q_Call G (d + 1) 0 0 X_M_feltBy [.ref 159, .int (nI b), .int (nI f)] σ Q := by
  refine q_ci (by decide +kernel) (Nat.le_of_ble_eq_true rfl) (fun Q hq => ?_) hq
  have h6 := hD.F6
  refine v_M_feltBy_0 hs ?_
  refine up_ind (R := fun k => q_At G X_M_feltBy (d + 1) 0 0 5 [some (.ref 159), some (.int (nI b)), some (.int (nI f)), some (.int (bx_sum (fun e => if thk D hm f e = 0 then 0 else nz D P f e (thk D hm f e)) k)), some (.int (nI k)), none] [] σ Q) (n := D 1) ?_ (fun k hk ih => ?_) 0 (Nat.zero_le _)
  · exact v_M_feltBy_5 hs ⟨fun _ => hq, fun c => absurd (by rw [hT.1.F]; exact Int32.le_refl _) c⟩
  · have h9 : thk D hm f k ≤ 9 := thk_le hD (hh f hf).2 (hh k hk).2
    rw [bx_sum, ← nI_1] at ih
    refine v_M_feltBy_5 hs ⟨fun c => by rw [hT.1.F] at c; exact ge_not c hk (by omega), fun _ => ⟨fun c => ?_, fun c => ?_⟩⟩
    · refine M_wallBy_ok hs hD hT.1 hh hb hf hk ⟨hs, _, rfl, fun c2 => ?_, fun c2 => ?_⟩
      · rw [le0_iff (by omega)] at c2
        rw [if_pos c2] at ih
        exact ih
      · rw [le0_iff (by omega)] at c2
        rw [if_neg c2] at ih
        refine ⟨60 * f + 10 * k + thk D hm f k, ?_, by omega, ?_⟩
        · rw [q_lit 60, q_lit 10, pk_mul, pk_mul, nI_add, nI_add]
        · rw [hT.2 f k _ hf hk h9]
          exact ih
    · have e1 : k = f := by rwa [nI_eq (by omega) (by omega)] at c
      subst e1
      rw [if_pos (thk_self hD (hh k hk).2)] at ih
      exact ih
theorem M_likes_ok {f e : Nat} (hs : q_Sh σ) (hD : WfD D) (hT : MT0 σ D P) (hf : f < D 1) (he : e < D 1) (hq : Q (some (.int (fond D f e))) σ) : q_Call G d 0 0 X_M_likes [.ref 159, .int (nI f), .int (nI e)] σ Q := by
  refine q_ci (by decide +kernel) (Nat.le_of_ble_eq_true rfl) (fun Q hq => ?_) hq
  have h6 := hD.F6
  refine v_M_likes_0 hs ⟨68 + (f * 6 + e), ?_, by omega, 104 + (f * 6 + e), ?_, by omega, ?_⟩
  · rw [q_lit 68, q_lit 6, pk_mul, nI_add, nI_add]; congr 1; omega
  · rw [q_lit 104, q_lit 6, pk_mul, nI_add, nI_add]; congr 1; omega
  · rw [hT.1 _ (by omega) (by omega), hT.1 _ (by omega) (by omega)]
    exact hq
theorem M_fam_ok {f k : Nat} (hs : q_Sh σ) (hD : WfD D) (hT : MT0 σ D P) (hf : f < D 1) (hk : k < 4) (hq : Q (some (.int (nI (D (44 + 4 * f + k))))) σ) : q_Call G d 0 0 X_M_familyOf [.ref 159, .int (nI f), .int (nI k)] σ Q := by
  refine q_ci (by decide +kernel) (Nat.le_of_ble_eq_true rfl) (fun Q hq => ?_) hq
  have h6 := hD.F6
  refine v_M_familyOf_0 hs ⟨44 + 4 * f + k, ?_, by omega, ?_⟩
  · rw [q_lit 44, q_lit 4, pk_mul, nI_add, nI_add]
  · rw [hT.1 _ (by omega) (by omega)]
    exact hq
theorem M_loud_ok {f : Nat} (hs : q_Sh σ) (hD : WfD D) (hT : MT0 σ D P) (hf : f < D 1) (hq : Q (some (.int (loud D f))) σ) : q_Call G (d + 1) 0 0 X_M_loudOf [.ref 159, .int (nI f)] σ Q := by
  refine q_ci (by decide +kernel) (Nat.le_of_ble_eq_true rfl) (fun Q hq => ?_) hq
  have h6 := hD.F6
  have k3 : D (44 + 4 * f) ≤ 3 := (hD.2.2.2.2.2.2.2.1 f (by omega)).1
  refine v_M_loudOf_0 hs (M_fam_ok (k := 1) hs hD hT hf (by decide) ⟨hs, _, rfl, M_fam_ok (k := 0) hs hD hT hf (by decide) ⟨hs, _, rfl, ?_⟩⟩)
  have e1 : (nI (D (44 + 4 * f + 0)) = 1) ↔ D (44 + 4 * f) = 1 := nI_eq (b := 1) (by rw [Nat.add_zero]; omega) (by omega)
  have e2 : nI (D (44 + 4 * f + 1)) * (if nI (D (44 + 4 * f + 0)) = 1 then (2 : Int32) else 1) = loud D f := by
    rw [loud, show 45 + 4 * f = 44 + 4 * f + 1 by omega]
    by_cases c : D (44 + 4 * f) = 1
    · rw [if_pos (e1.mpr c), if_pos c, q_lit 2, pk_mul, Nat.mul_comm]
    · rw [if_neg (fun h => c (e1.mp h)), if_neg c, Int32.mul_one]
  dsimp only
  rw [e2]
  exact hq
theorem M_hear_ok {f : Nat} (hs : q_Sh σ) (hD : WfD D) (hT : MT0 σ D P) (hf : f < D 1) (hq : Q (some (.int (hear D f))) σ) : q_Call G (d + 1) 0 0 X_M_hearingOf [.ref 159, .int (nI f)] σ Q := by
  refine q_ci (by decide +kernel) (Nat.le_of_ble_eq_true rfl) (fun Q hq => ?_) hq
  have h6 := hD.F6
  have k3 : D (44 + 4 * f) ≤ 3 := (hD.2.2.2.2.2.2.2.1 f (by omega)).1
  have e1 : (nI (D (44 + 4 * f + 0)) = 2) ↔ D (44 + 4 * f) = 2 := nI_eq (b := 2) (by rw [Nat.add_zero]; omega) (by omega)
  refine v_M_hearingOf_0 hs (M_fam_ok (k := 0) hs hD hT hf (by decide) ⟨hs, _, rfl, fun c => ?_, fun c => ?_⟩)
  · rw [e1] at c
    rw [hear, if_neg c, show 46 + 4 * f = 44 + 4 * f + 2 by omega] at hq
    exact M_fam_ok (k := 2) hs hD hT hf (by decide) ⟨hs, _, rfl, hq⟩
  · rw [e1] at c
    rw [hear, if_pos c] at hq
    exact hq
theorem clmp_of {lo hi v : Int32} (h : lo ≤ hi) : (if lo ≤ v then (if v ≤ hi then v else hi) else lo) = clmp lo hi v := by
  unfold clmp
  by_cases h1 : v < lo
  · rw [if_pos h1, if_neg (fun h => Int32.lt_irrefl (Int32.lt_of_le_of_lt h h1))]
  · rw [if_neg h1, if_pos (Int32.not_lt.mp h1)]
    by_cases h2 : hi < v
    · rw [if_pos h2, if_neg (fun h => Int32.lt_irrefl (Int32.lt_of_le_of_lt h h2))]
    · rw [if_neg h2, if_pos (Int32.not_lt.mp h2)]
end MOD3
