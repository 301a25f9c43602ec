-- a draw: what lapses, the new homes
def rlE (D hm : Nat → Nat) (f : Nat) : Nat → Int32 × (Nat → Int32) → Int32 × (Nat → Int32)
  | 0, x => x
  | n + 1, x => ((rlE D hm f n x).1 + lpd D hm (rlE D hm f n x).2 f n, upd (rlE D hm f n x).2 (12 + (f * 6 + n)) ((rlE D hm f n x).2 (12 + (f * 6 + n)) - lpd D hm (rlE D hm f n x).2 f n))
def rlF (D hm : Nat → Nat) : Nat → Int32 × (Nat → Int32) → Int32 × (Nat → Int32)
  | 0, x => x
  | n + 1, x => rlE D hm n (D 1) (rlF D hm n x)
def hcp (r : Nat → Nat) : Nat → (Nat → Int32) → Nat → Int32
  | 0, L => L
  | n + 1, L => upd (hcp r n L) n (nI (r n))
def rdG (D hm : Nat → Nat) (L : Nat → Int32) : Int32 := (rlF D hm (D 1) (0, L)).1
def rdR (D : Nat → Nat) (n : Nat) : Nat → Nat := (shf (D 0 - 1) n (fun k => k)).2
def rdN (D : Nat → Nat) (n : Nat) : Nat := (shf (D 0 - 1) n (fun k => k)).1
def rdL (D hm : Nat → Nat) (L : Nat → Int32) (n : Nat) : Nat → Int32 :=
  upd (upd (hcp (rdR D n) (D 1) (rlF D hm (D 1) (0, L)).2) 48 (hcp (rdR D n) (D 1) (rlF D hm (D 1) (0, L)).2 48 + 1)) 49 (upd (hcp (rdR D n) (D 1) (rlF D hm (D 1) (0, L)).2) 48 (hcp (rdR D n) (D 1) (rlF D hm (D 1) (0, L)).2 48 + 1) 49 + rdG D hm L)
theorem rlE_home {D hm : Nat → Nat} {f i : Nat} {x : Int32 × (Nat → Int32)} (hi : i < 12) : ∀ n, (rlE D hm f n x).2 i = x.2 i
  | 0 => rfl
  | n + 1 => by
    rw [rlE]
    show upd _ _ _ i = _
    rw [upd, if_neg (by omega), rlE_home hi n]
theorem rlF_home {D hm : Nat → Nat} {i : Nat} {x : Int32 × (Nat → Int32)} (hi : i < 12) : ∀ n, (rlF D hm n x).2 i = x.2 i
  | 0 => rfl
  | n + 1 => by rw [rlF, rlE_home hi, rlF_home hi n]
section DRAW
variable {G : q_G} {d : Nat} {σ : q_S} {Q : Option Value → q_S → Prop} {t v b f e n : Nat} {D hm : Nat → Nat} {P : Nat → List Int32} {L : Nat → Int32} {c : Int32}
theorem Li_lapsing_ok (ht : q_isTw t) (hv : q_isLi v) (hs : q_Sh σ) (hD : WfD D) (hT : CT0 σ t D P) (hL : CL σ v L) (hw : ∀ f, f < D 1 → L f = nI (hm f) ∧ hm f < D 0) (hf : f < D 1) (he : e < D 1) (hq : Q (some (.int (lpd D hm L f e))) σ) : q_Call G (d + 3) 0 0 X_Li_lapsing [.ref v, .ref t, .int (nI f), .int (nI e)] σ Q := by
  have h6 := hD.F6
  refine q_ci (by decide +kernel) (Nat.le_of_ble_eq_true rfl) (fun Q hq => ?_) hq
  have k3 : D (44 + 4 * e) ≤ 3 := (hD.2.2.2.2.2.2.2.1 e (by omega)).1
  have g1 := (hT.2.2.1 e he).1
  have e1 : (nI (D (44 + 4 * e)) = 3) ↔ D (44 + 4 * e) = 3 := nI_eq (b := 3) (by omega) (by omega)
  refine v_Li_lapsing_0 hv ht hs ⟨e, rfl, by omega, fun cc => ?_, fun cc => ?_⟩
  · rw [g1, e1] at cc
    rw [lpd, if_pos cc] at hq
    exact hq
  · rw [g1, e1] at cc
    rw [lpd, if_neg cc] at hq
    refine Tw_near_ok ht (kd_Li_1 hv) hs hD hT (hL.HM hD hw) hf he ⟨hs, _, rfl, fun c2 => ?_, fun c2 => ?_⟩
    · rw [if01, if01] at c2
      rw [if_pos c2] at hq
      exact hq
    · rw [if01, if01] at c2
      rw [if_neg c2] at hq
      refine ⟨f * 6 + e, q_mul6 _ _, by omega, ?_⟩
      rw [hL.debt (by omega)]
      exact hq
theorem M_lapses_ok (hs : q_Sh σ) (hD : WfD D) (hT : MT0 σ D P) (hB : HB σ b D hm) (hb : b + 50 ≤ 1886) (hf : f < D 1) (he : e < D 1) (hq : Q (some (.int (if D (44 + 4 * e) = 3 then 0 else if thk D hm f e = 0 then 0 else 1))) σ) : q_Call G (d + 1) 0 0 X_M_lapses [.ref 159, .int (nI b), .int (nI f), .int (nI e)] σ Q := by
  have h6 := hD.F6
  refine q_ci (by decide +kernel) (Nat.le_of_ble_eq_true rfl) (fun Q hq => ?_) hq
  have k3 : D (44 + 4 * e) ≤ 3 := (hD.2.2.2.2.2.2.2.1 e (by omega)).1
  have e1 : (nI (D (44 + 4 * e + 0)) = 3) ↔ D (44 + 4 * e) = 3 := nI_eq (b := 3) (by rw [Nat.add_zero]; omega) (by omega)
  have h9 := thk_le (f := f) (e := e) hD (hB f hf).2 (hB e he).2
  refine v_M_lapses_0 hs ⟨fun cc => ?_, fun cc => ?_⟩
  · have : f = e := by rwa [nI_eq (by omega) (by omega)] at cc
    subst this
    have z := thk_self hD (hB f hf).2
    rw [if_pos z, ite_self] at hq
    exact hq
  · refine M_wallBy_ok hs hD hT hB (by omega) hf he ⟨hs, _, rfl, fun c2 => ?_, fun c2 => ?_⟩
    · rw [le0_iff (by omega)] at c2
      rw [if_pos c2, ite_self] at hq
      exact hq
    · rw [le0_iff (by omega)] at c2
      rw [if_neg c2] at hq
      refine M_fam_ok (k := 0) hs hD hT he (by decide) ⟨hs, _, rfl, q_nb10, ?_⟩
      simp only [e1]
      exact hq
theorem Li_canLend_ok (ht : q_isTw t) (hv : q_isLi v) (hs : q_Sh σ) (hD : WfD D) (hT : CT0 σ t D P) (hL : CL σ v L) (hw : ∀ f, f < D 1 → L f = nI (hm f) ∧ hm f < D 0) (hf : f < D 1) (he : e < D 1) (hq : Q (some (.int (if L (6 + f) < c then 0 else if thk D hm f e = 0 then 0 else 1))) σ) : q_Call G (d + 3) 0 0 X_Li_canLend [.ref v, .ref t, .int (nI f), .int (nI e), .int c] σ Q := by
  have h6 := hD.F6
  refine q_ci (by decide +kernel) (Nat.le_of_ble_eq_true rfl) (fun Q hq => ?_) hq
  refine v_Li_canLend_0 hv ht hs ⟨f, rfl, by omega, fun cc => ?_, fun cc => ?_⟩
  · rw [hL.coin (by omega)] at cc
    rw [if_pos cc] at hq
    exact hq
  · rw [hL.coin (by omega)] at cc
    rw [if_neg cc] at hq
    refine Tw_near_ok ht (kd_Li_1 hv) hs hD hT (hL.HM hD hw) hf he ⟨hs, _, rfl, q_nb10, ?_⟩
    simp only [if01]
    exact hq
theorem M_mayLend_ok (hs : q_Sh σ) (hD : WfD D) (hT : MT0 σ D P) (hL : ML σ b L) (hw : ∀ f, f < D 1 → L f = nI (hm f) ∧ hm f < D 0) (hb : b + 50 ≤ 1886) (hf : f < D 1) (he : e < D 1) (hq : Q (some (.int (if L (6 + f) < c then 0 else if thk D hm f e = 0 then 0 else 1))) σ) : q_Call G (d + 1) 0 0 X_M_mayLend [.ref 159, .int (nI b), .int (nI f), .int (nI e), .int c] σ Q := by
  have h6 := hD.F6
  have hB := hL.HB hD hw
  have h9 := thk_le (f := f) (e := e) hD (hB f hf).2 (hB e he).2
  refine q_ci (by decide +kernel) (Nat.le_of_ble_eq_true rfl) (fun Q hq => ?_) hq
  refine v_M_mayLend_0 hs ⟨fun cc => ?_, fun cc => ?_⟩
  · have : f = e := by rwa [nI_eq (by omega) (by omega)] at cc
    subst this
    rw [if_pos (thk_self hD (hB f hf).2), ite_self] at hq
    exact hq
  · refine M_wallBy_ok hs hD hT hB (by omega) hf he ⟨hs, _, rfl, fun c2 => ?_, fun c2 => ?_⟩
    · rw [le0_iff (by omega)] at c2
      rw [if_pos c2, ite_self] at hq
      exact hq
    · rw [le0_iff (by omega)] at c2
      rw [if_neg c2] at hq
      refine ⟨b + (6 + f), by rw [q_lit 6, nI_add, nI_add]; congr 1; omega, by omega, q_nb10, ?_⟩
      rw [hL _ (by omega)]
      exact hq
theorem Li_canPay_ok (hv : q_isLi v) (hs : q_Sh σ) (hL : CL σ v L) (hf : f < 6) (he : e < 6) (hq : Q (some (.int (if L (6 + f) < c then 0 else if L (12 + (f * 6 + e)) < c then 0 else 1))) σ) : q_Call G d 0 0 X_Li_canPay [.ref v, .int (nI f), .int (nI e), .int c] σ Q := by
  refine q_ci (by decide +kernel) (Nat.le_of_ble_eq_true rfl) (fun Q hq => ?_) hq
  refine v_Li_canPay_0 hv hs ⟨f, rfl, by omega, fun cc => ?_, fun cc => ⟨f * 6 + e, q_mul6 _ _, by omega, q_nb10, ?_⟩⟩
  · rw [hL.coin (by omega)] at cc
    rw [if_pos cc] at hq
    exact hq
  · rw [hL.coin (by omega)] at cc
    rw [if_neg cc] at hq
    rw [hL.debt (by omega)]
    exact hq
theorem M_mayPay_ok (hs : q_Sh σ) (hL : ML σ b L) (hb : b + 50 ≤ 1886) (hf : f < 6) (he : e < 6) (hq : Q (some (.int (if L (6 + f) < c then 0 else if L (12 + (f * 6 + e)) < c then 0 else 1))) σ) : q_Call G d 0 0 X_M_mayPay [.ref 159, .int (nI b), .int (nI f), .int (nI e), .int c] σ Q := by
  refine q_ci (by decide +kernel) (Nat.le_of_ble_eq_true rfl) (fun Q hq => ?_) hq
  refine v_M_mayPay_0 hs ⟨b + (6 + f), by rw [q_lit 6, nI_add, nI_add]; congr 1; omega, by omega, fun cc => ?_, fun cc => ⟨b + (12 + (f * 6 + e)), by rw [q_lit 12, q_lit 6, pk_mul, nI_add, nI_add, nI_add]; congr 1; omega, by omega, q_nb10, ?_⟩⟩
  · rw [hL _ (by omega)] at cc
    rw [if_pos cc] at hq
    exact hq
  · rw [hL _ (by omega)] at cc
    rw [if_neg cc] at hq
    rw [hL _ (by omega)]
    exact hq
end DRAW
