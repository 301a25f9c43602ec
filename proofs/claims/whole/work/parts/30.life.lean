-- a life is a row of fifty numbers, as the reference keeps it: 0.. homes, 6.. coins, 12.. debts, 48 draws, 49 lapsed
def clc (v i : Nat) : Nat × Nat := if i < 6 then (v + 1, i) else if i < 12 then (v + 2, i - 6) else if i < 48 then (v + 3, i - 12) else if i = 48 then (v, 3) else (v, 4)
def CL (σ : q_S) (v : Nat) (L : Nat → Int32) : Prop := ∀ i, i < 50 → q_I σ (clc v i).1 (clc v i).2 = L i
def ML (σ : q_S) (b : Nat) (L : Nat → Int32) : Prop := ∀ i, i < 50 → q_I σ 175 (b + i) = L i
def WL (D hm : Nat → Nat) (L : Nat → Int32) : Prop := (∀ f, f < D 1 → L f = nI (hm f) ∧ hm f < D 0) ∧ (∀ f e, f < D 1 → e < D 1 → hm f = hm e → f = e) ∧ ∀ i, i < 6 → D 1 ≤ i → L (6 + i) = 0
theorem clc_home {v k : Nat} (h : k < 6) : clc v k = (v + 1, k) := by simp [clc, h]
theorem clc_coin {v k : Nat} (h : k < 6) : clc v (6 + k) = (v + 2, k) := by
  unfold clc
  rw [if_neg (by omega), if_pos (by omega)]
  congr 1
  omega
theorem clc_debt {v k : Nat} (h : k < 36) : clc v (12 + k) = (v + 3, k) := by
  unfold clc
  rw [if_neg (by omega), if_neg (by omega), if_pos (by omega)]
  congr 1
  omega
theorem clc_cases {i : Nat} (v : Nat) (hi : i < 50) : (i < 6 ∧ clc v i = (v + 1, i)) ∨ (∃ k, k < 6 ∧ i = 6 + k ∧ clc v i = (v + 2, k)) ∨ (∃ k, k < 36 ∧ i = 12 + k ∧ clc v i = (v + 3, k)) ∨ (i = 48 ∧ clc v i = (v, 3)) ∨ (i = 49 ∧ clc v i = (v, 4)) := by
  by_cases a1 : i < 6
  · exact Or.inl ⟨a1, clc_home a1⟩
  · by_cases a2 : i < 12
    · exact Or.inr (Or.inl ⟨i - 6, by omega, by omega, by have := clc_coin (v := v) (k := i - 6) (by omega); rwa [show 6 + (i - 6) = i by omega] at this⟩)
    · by_cases a3 : i < 48
      · exact Or.inr (Or.inr (Or.inl ⟨i - 12, by omega, by omega, by have := clc_debt (v := v) (k := i - 12) (by omega); rwa [show 12 + (i - 12) = i by omega] at this⟩))
      · by_cases a4 : i = 48
        · subst a4; exact Or.inr (Or.inr (Or.inr (Or.inl ⟨rfl, rfl⟩)))
        · have a5 : i = 49 := by omega
          subst a5; exact Or.inr (Or.inr (Or.inr (Or.inr ⟨rfl, rfl⟩)))
theorem clc_inj {v i j : Nat} (hi : i < 50) (hj : j < 50) (h1 : (clc v i).1 = (clc v j).1) (h2 : (clc v i).2 = (clc v j).2) : i = j := by
  rcases clc_cases v hi with ⟨a, e⟩ | ⟨k, a, b, e⟩ | ⟨k, a, b, e⟩ | ⟨a, e⟩ | ⟨a, e⟩ <;> rcases clc_cases v hj with ⟨a', e'⟩ | ⟨k', a', b', e'⟩ | ⟨k', a', b', e'⟩ | ⟨a', e'⟩ | ⟨a', e'⟩ <;> rw [e, e'] at h1 h2 <;> simp only at h1 h2 <;> omega
theorem CL.set {σ : q_S} {v i : Nat} {L : Nat → Int32} {x : Int32} (h : CL σ v L) (hi : i < 50) : CL (q_setI σ (clc v i).1 (clc v i).2 x) v (upd L i x) := by
  intro j hj
  by_cases c : j = i
  · subst c
    rw [q_I_eq]
    simp [upd]
  · rw [q_I_ne (fun e => c (clc_inj hj hi e.1 e.2)), h j hj]
    simp [upd, c]
theorem ML.set {σ : q_S} {b i : Nat} {L : Nat → Int32} {x : Int32} (h : ML σ b L) : ML (q_setI σ 175 (b + i) x) b (upd L i x) := by
  intro j hj
  by_cases c : j = i
  · subst c
    rw [q_I_eq]
    simp [upd]
  · rw [q_I_ne (by omega), h j hj]
    simp [upd, c]
section LIFE0
variable {σ : q_S} {v k : Nat} {L : Nat → Int32} {x : Int32}
theorem CL.home (h : CL σ v L) (hk : k < 6) : q_I σ (v + 1) k = L k := by have := h k (by omega); rwa [clc_home hk] at this
theorem CL.coin (h : CL σ v L) (hk : k < 6) : q_I σ (v + 2) k = L (6 + k) := by have := h (6 + k) (by omega); rwa [clc_coin hk] at this
theorem CL.debt (h : CL σ v L) (hk : k < 36) : q_I σ (v + 3) k = L (12 + k) := by have := h (12 + k) (by omega); rwa [clc_debt hk] at this
theorem CL.dr (h : CL σ v L) : q_I σ v 3 = L 48 := h 48 (by decide)
theorem CL.lp (h : CL σ v L) : q_I σ v 4 = L 49 := h 49 (by decide)
theorem CL.sHome (h : CL σ v L) (hk : k < 6) : CL (q_setI σ (v + 1) k x) v (upd L k x) := by have := h.set (i := k) (x := x) (by omega); rwa [clc_home hk] at this
theorem CL.sCoin (h : CL σ v L) (hk : k < 6) : CL (q_setI σ (v + 2) k x) v (upd L (6 + k) x) := by have := h.set (i := 6 + k) (x := x) (by omega); rwa [clc_coin hk] at this
theorem CL.sDebt (h : CL σ v L) (hk : k < 36) : CL (q_setI σ (v + 3) k x) v (upd L (12 + k) x) := by have := h.set (i := 12 + k) (x := x) (by omega); rwa [clc_debt hk] at this
theorem CL.sDr (h : CL σ v L) : CL (q_setI σ v 3 x) v (upd L 48 x) := h.set (i := 48) (by decide)
theorem CL.sLp (h : CL σ v L) : CL (q_setI σ v 4 x) v (upd L 49 x) := h.set (i := 49) (by decide)
theorem CL.keep {σ' : q_S} (h : CL σ v L) (hI : ∀ a i, v ≤ a → a ≤ v + 3 → q_I σ' a i = q_I σ a i) : CL σ' v L := by
  intro i hi
  rw [hI _ _ ?_ ?_]
  · exact h i hi
  · unfold clc
    split
    · omega
    · split
      · omega
      · split
        · omega
        · split <;> omega
  · unfold clc
    split
    · omega
    · split
      · omega
      · split
        · omega
        · split <;> omega
theorem CL.ext {L' : Nat → Int32} (h : CL σ v L) (he : ∀ i, i < 50 → L i = L' i) : CL σ v L' := fun i hi => (h i hi).trans (he i hi)
theorem ML.ext {b : Nat} {L' : Nat → Int32} (h : ML σ b L) (he : ∀ i, i < 50 → L i = L' i) : ML σ b L' := fun i hi => (h i hi).trans (he i hi)
theorem ML.keep {σ' : q_S} {b : Nat} (h : ML σ b L) (hI : ∀ i, b ≤ i → i < b + 50 → q_I σ' 175 i = q_I σ 175 i) : ML σ' b L := fun i hi => by rw [hI _ (by omega) (by omega)]; exact h i hi
theorem CL.HM {D hm : Nat → Nat} (h : CL σ v L) (hD : WfD D) (hw : ∀ f, f < D 1 → L f = nI (hm f) ∧ hm f < D 0) : HM σ (v + 1) D hm := fun f hf => ⟨by rw [h.home (by have := hD.F6; omega)]; exact (hw f hf).1, (hw f hf).2⟩
theorem ML.HB {D hm : Nat → Nat} {b : Nat} (h : ML σ b L) (hD : WfD D) (hw : ∀ f, f < D 1 → L f = nI (hm f) ∧ hm f < D 0) : HB σ b D hm := fun f hf => ⟨by rw [h f (by have := hD.F6; omega)]; exact (hw f hf).1, (hw f hf).2⟩
end LIFE0
-- what two families do
def swpL (L : Nat → Int32) (f e : Nat) : Nat → Int32 := upd (upd L f (L e)) e (L f)
def mvL (L : Nat → Int32) (f e : Nat) (c : Int32) : Nat → Int32 := upd (upd L (6 + f) (L (6 + f) - c)) (6 + e) (upd L (6 + f) (L (6 + f) - c) (6 + e) + c)
def lenL (L : Nat → Int32) (f e : Nat) (c : Int32) : Nat → Int32 := upd (mvL L f e c) (12 + (e * 6 + f)) (mvL L f e c (12 + (e * 6 + f)) + c)
def payL (L : Nat → Int32) (f e : Nat) (c : Int32) : Nat → Int32 := upd (mvL L f e c) (12 + (f * 6 + e)) (mvL L f e c (12 + (f * 6 + e)) - c)
def lpd (D hm : Nat → Nat) (L : Nat → Int32) (f e : Nat) : Int32 := if D (44 + 4 * e) = 3 then 0 else if thk D hm f e = 0 then 0 else L (12 + (f * 6 + e))
def SLi (v : Nat) : Nat → Nat → Prop := fun a _ => v ≤ a ∧ a ≤ v + 3
def SMb (b : Nat) : Nat → Nat → Prop := fun a i => a = 175 ∧ b ≤ i ∧ i < b + 50
section LIFE
variable {G : q_G} {d : Nat} {σ : q_S} {Q : Option Value → q_S → Prop} {t v b f e : Nat} {D hm : Nat → Nat} {P : Nat → List Int32} {L : Nat → Int32} {c : Int32}
theorem kdLi1 (hv : q_isLi v) : q_kd (v + 1) = (1, 6) := kd_Li_1 hv
theorem Li_swap_ok (hv : q_isLi v) (hs : q_Sh σ) (hL : CL σ v L) (hf : f < 6) (he : e < 6) (hq : ∀ σ', Fr (SLi v) noL σ σ' → CL σ' v (swpL L f e) → Q none σ') : q_Call G d 0 0 X_Li_changeHouses [.ref v, .int (nI f), .int (nI e)] σ Q := by
  refine q_cv0 (P := fun σ' => Fr (SLi v) noL σ σ' ∧ CL σ' v (swpL L f e)) (by decide +kernel) (Nat.le_of_ble_eq_true rfl) (fun Q hq => ?_) (fun σ' h => hq σ' h.1 h.2)
  refine v_Li_changeHouses_0 hv hs ⟨f, rfl, hf, e, rfl, he, f, rfl, hf, e, rfl, he, hq _ ⟨Fr.tr (Fr.setI ⟨by omega, by omega⟩) (Fr.setI ⟨by omega, by omega⟩), ?_⟩⟩
  rw [hL.home hf, hL.home he]
  exact (hL.sHome hf).sHome he
theorem M_swap_ok (hs : q_Sh σ) (hL : ML σ b L) (hb : b + 50 ≤ 1886) (hf : f < 6) (he : e < 6) (hq : ∀ σ', Fr (SMb b) noL σ σ' → ML σ' b (swpL L f e) → Q none σ') : q_Call G d 0 0 X_M_swaps [.ref 159, .int (nI b), .int (nI f), .int (nI e)] σ Q := by
  refine q_cv0 (P := fun σ' => Fr (SMb b) noL σ σ' ∧ ML σ' b (swpL L f e)) (by decide +kernel) (Nat.le_of_ble_eq_true rfl) (fun Q hq => ?_) (fun σ' h => hq σ' h.1 h.2)
  have e1 : ∀ k, nI b + 0 + nI k = nI (b + k) := fun k => by rw [Int32.add_zero, nI_add]
  refine v_M_swaps_0 hs ⟨b + f, e1 f, by omega, b + e, e1 e, by omega, b + f, e1 f, by omega, b + e, e1 e, by omega, hq _ ⟨Fr.tr (Fr.setI ⟨rfl, by omega, by omega⟩) (Fr.setI ⟨rfl, by omega, by omega⟩), ?_⟩⟩
  rw [hL f (by omega), hL e (by omega)]
  exact hL.set.set
theorem Li_lend_ok (hv : q_isLi v) (hs : q_Sh σ) (hL : CL σ v L) (hf : f < 6) (he : e < 6) (hq : ∀ σ', Fr (SLi v) noL σ σ' → CL σ' v (lenL L f e c) → Q none σ') : q_Call G d 0 0 X_Li_giveLoan [.ref v, .int (nI f), .int (nI e), .int c] σ Q := by
  refine q_cv0 (P := fun σ' => Fr (SLi v) noL σ σ' ∧ CL σ' v (lenL L f e c)) (by decide +kernel) (Nat.le_of_ble_eq_true rfl) (fun Q hq => ?_) (fun σ' h => hq σ' h.1 h.2)
  refine v_Li_giveLoan_0 hv hs ⟨f, rfl, hf, f, rfl, hf, e, rfl, he, e, rfl, he, e * 6 + f, q_mul6 _ _, by omega, e * 6 + f, q_mul6 _ _, by omega, hq _ ⟨Fr.tr (Fr.tr (Fr.setI ⟨by omega, by omega⟩) (Fr.setI ⟨by omega, by omega⟩)) (Fr.setI ⟨by omega, by omega⟩), ?_⟩⟩
  have h1 := hL.sCoin (x := L (6 + f) - c) hf
  have h2 := h1.sCoin (x := upd L (6 + f) (L (6 + f) - c) (6 + e) + c) he
  rw [hL.coin hf, h1.coin he, h2.debt (by omega)]
  exact h2.sDebt (by omega)
theorem Li_pay_ok (hv : q_isLi v) (hs : q_Sh σ) (hL : CL σ v L) (hf : f < 6) (he : e < 6) (hq : ∀ σ', Fr (SLi v) noL σ σ' → CL σ' v (payL L f e c) → Q none σ') : q_Call G d 0 0 X_Li_payBack [.ref v, .int (nI f), .int (nI e), .int c] σ Q := by
  refine q_cv0 (P := fun σ' => Fr (SLi v) noL σ σ' ∧ CL σ' v (payL L f e c)) (by decide +kernel) (Nat.le_of_ble_eq_true rfl) (fun Q hq => ?_) (fun σ' h => hq σ' h.1 h.2)
  refine v_Li_payBack_0 hv hs ⟨f, rfl, hf, f, rfl, hf, e, rfl, he, e, rfl, he, f * 6 + e, q_mul6 _ _, by omega, f * 6 + e, q_mul6 _ _, by omega, hq _ ⟨Fr.tr (Fr.tr (Fr.setI ⟨by omega, by omega⟩) (Fr.setI ⟨by omega, by omega⟩)) (Fr.setI ⟨by omega, by omega⟩), ?_⟩⟩
  have h1 := hL.sCoin (x := L (6 + f) - c) hf
  have h2 := h1.sCoin (x := upd L (6 + f) (L (6 + f) - c) (6 + e) + c) he
  rw [hL.coin hf, h1.coin he, h2.debt (by omega)]
  exact h2.sDebt (by omega)
theorem M_moves_ok (hs : q_Sh σ) (hL : ML σ b L) (hb : b + 50 ≤ 1886) (hf : f < 6) (he : e < 6) (hq : ∀ σ', Fr (SMb b) noL σ σ' → ML σ' b (mvL L f e c) → Q none σ') : q_Call G d 0 0 X_M_moves [.ref 159, .int (nI b), .int (nI f), .int (nI e), .int c] σ Q := by
  refine q_cv0 (P := fun σ' => Fr (SMb b) noL σ σ' ∧ ML σ' b (mvL L f e c)) (by decide +kernel) (Nat.le_of_ble_eq_true rfl) (fun Q hq => ?_) (fun σ' h => hq σ' h.1 h.2)
  have e1 : ∀ k, nI b + 6 + nI k = nI (b + (6 + k)) := fun k => by rw [q_lit 6, nI_add, nI_add]; congr 1; omega
  refine v_M_moves_0 hs ⟨b + (6 + f), e1 f, by omega, b + (6 + f), e1 f, by omega, b + (6 + e), e1 e, by omega, b + (6 + e), e1 e, by omega, hq _ ⟨Fr.tr (Fr.setI ⟨rfl, by omega, by omega⟩) (Fr.setI ⟨rfl, by omega, by omega⟩), ?_⟩⟩
  have h1 := hL.set (i := 6 + f) (x := L (6 + f) - c)
  rw [hL (6 + f) (by omega), h1 (6 + e) (by omega)]
  exact h1.set
theorem M_lends_ok (hs : q_Sh σ) (hL : ML σ b L) (hb : b + 50 ≤ 1886) (hf : f < 6) (he : e < 6) (hq : ∀ σ', Fr (SMb b) noL σ σ' → ML σ' b (lenL L f e c) → Q none σ') : q_Call G (d + 1) 0 0 X_M_lends [.ref 159, .int (nI b), .int (nI f), .int (nI e), .int c] σ Q := by
  refine q_cv0 (P := fun σ' => Fr (SMb b) noL σ σ' ∧ ML σ' b (lenL L f e c)) (by decide +kernel) (Nat.le_of_ble_eq_true rfl) (fun Q hq => ?_) (fun σ' h => hq σ' h.1 h.2)
  have e1 : nI b + 12 + 6 * nI e + nI f = nI (b + (12 + (e * 6 + f))) := by rw [q_lit 12, q_lit 6, pk_mul, nI_add, nI_add, nI_add]; congr 1; omega
  refine v_M_lends_0 hs (M_moves_ok hs hL hb hf he (fun σ1 f1 h1 => ⟨f1.sh hs, rfl, b + (12 + (e * 6 + f)), e1, by omega, b + (12 + (e * 6 + f)), e1, by omega, hq _ ⟨f1.tr (Fr.setI ⟨rfl, by omega, by omega⟩), ?_⟩⟩))
  rw [h1 _ (by omega)]
  exact h1.set
theorem M_pays_ok (hs : q_Sh σ) (hL : ML σ b L) (hb : b + 50 ≤ 1886) (hf : f < 6) (he : e < 6) (hq : ∀ σ', Fr (SMb b) noL σ σ' → ML σ' b (payL L f e c) → Q none σ') : q_Call G (d + 1) 0 0 X_M_pays [.ref 159, .int (nI b), .int (nI f), .int (nI e), .int c] σ Q := by
  refine q_cv0 (P := fun σ' => Fr (SMb b) noL σ σ' ∧ ML σ' b (payL L f e c)) (by decide +kernel) (Nat.le_of_ble_eq_true rfl) (fun Q hq => ?_) (fun σ' h => hq σ' h.1 h.2)
  have e1 : nI b + 12 + 6 * nI f + nI e = nI (b + (12 + (f * 6 + e))) := by rw [q_lit 12, q_lit 6, pk_mul, nI_add, nI_add, nI_add]; congr 1; omega
  refine v_M_pays_0 hs (M_moves_ok hs hL hb hf he (fun σ1 f1 h1 => ⟨f1.sh hs, rfl, b + (12 + (f * 6 + e)), e1, by omega, b + (12 + (f * 6 + e)), e1, by omega, hq _ ⟨f1.tr (Fr.setI ⟨rfl, by omega, by omega⟩), ?_⟩⟩))
  rw [h1 _ (by omega)]
  exact h1.set
end LIFE
