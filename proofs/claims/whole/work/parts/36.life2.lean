theorem q_I_cp {σ : q_S} {a0 i a1 j n a x : Nat} : q_I (q_cpI σ a0 i a1 j n) a x = if a = a1 ∧ j ≤ x ∧ x < j + n then q_I σ a0 (i + (x - j)) else q_I σ a x := by
  unfold q_cpI
  show (if a = a1 then va_cpy (σ.2.1 a0) (σ.2.1 a1) i j n x else σ.2.1 a x) = _
  unfold va_cpy
  by_cases c : a = a1
  · subst c
    rw [if_pos rfl]
    by_cases c2 : j ≤ x ∧ x < j + n
    · rw [if_pos c2, if_pos ⟨rfl, c2⟩]; rfl
    · rw [if_neg c2, if_neg (fun h => c2 h.2)]; rfl
  · rw [if_neg c, if_neg (fun h => c h.1)]; rfl
theorem q_I_cpin {σ : q_S} {a0 a1 n x : Nat} (h : x < n) : q_I (q_cpI σ a0 0 a1 0 n) a1 x = q_I σ a0 x := by rw [q_I_cp, if_pos ⟨rfl, by omega, by omega⟩]; congr 1; omega
theorem q_I_cpne {σ : q_S} {a0 a1 n a x : Nat} (h : a ≠ a1) : q_I (q_cpI σ a0 0 a1 0 n) a x = q_I σ a x := by rw [q_I_cp, if_neg (fun z => h z.1)]
theorem Fr.cp {SI SL : Nat → Nat → Prop} {σ : q_S} {a0 a1 n : Nat} (h : ∀ i, SI a1 i) : Fr SI SL σ (q_cpI σ a0 0 a1 0 n) := ⟨rfl, rfl, fun a i q => by rw [q_I_cp, if_neg]; rintro ⟨rfl, _⟩; exact q (h i), fun _ _ _ => rfl⟩
def stL (D : Nat → Nat) (i : Nat) : Int32 := if i < 6 then nI i else if i < 12 then (if i - 6 < D 1 then nI (D (47 + 4 * (i - 6))) else 0) else if i < 48 then nI (D (140 + (i - 12))) else 0
theorem stL_home {D : Nat → Nat} {k : Nat} (h : k < 6) : stL D k = nI k := by simp [stL, h]
theorem stL_coin {D : Nat → Nat} {k : Nat} (h : k < 6) : stL D (6 + k) = if k < D 1 then nI (D (47 + 4 * k)) else 0 := by
  unfold stL
  rw [if_neg (by omega), if_pos (by omega), show 6 + k - 6 = k by omega]
theorem stL_debt {D : Nat → Nat} {k : Nat} (h : k < 36) : stL D (12 + k) = nI (D (140 + k)) := by
  unfold stL
  rw [if_neg (by omega), if_neg (by omega), if_pos (by omega), show 12 + k - 12 = k by omega]
theorem WL_st {D : Nat → Nat} (hD : WfD D) : WL D (fun f => f) (stL D) := by
  have := hD.F6
  have := hD.1
  refine ⟨fun f hf => ⟨stL_home (by omega), by show f < D 0; omega⟩, fun f e _ _ h => h, fun i hi h => ?_⟩
  rw [stL_coin hi, if_neg (by omega)]
section LIFE2
variable {G : q_G} {d : Nat} {σ : q_S} {Q : Option Value → q_S → Prop} {t v u b b' f e n : Nat} {D hm : Nat → Nat} {P : Nat → List Int32} {L : Nat → Int32} {c : Int32}
theorem Li_begin_ok (ht : q_isTw t) (hv : q_isLi v) (hs : q_Sh σ) (hD : WfD D) (hT : CT0 σ t D P) (hq : ∀ σ', Fr (SLi v) noL σ σ' → CL σ' v (stL D) → Q none σ') : q_Call G (d + 1) 0 0 X_Li_begin [.ref v, .ref t] σ Q := by
  have h6 := hD.F6
  have ho := isLi_out hv
  have hto := isTw_cases ht
  refine q_cv0 (P := fun σ' => Fr (SLi v) noL σ σ' ∧ CL σ' v (stL D)) (by decide +kernel) (Nat.le_of_ble_eq_true rfl) (fun Q hq => ?_) (fun σ' h => hq σ' h.1 h.2)
  have kT : ∀ σ1, Fr (SLi v) noL σ σ1 → CT0 σ1 t D P := fun σ1 fr => hT.fr ht fr (fun a i h => by unfold SLi at h; unfold fT; omega) (fun a i h => h.elim)
  refine v_Li_begin_0 hv ht hs ?_
  refine up_ind (R := fun k => ∀ σ1, Fr (SLi v) noL σ σ1 → (∀ j, j < k → q_I σ1 (v + 1) j = nI j ∧ q_I σ1 (v + 2) j = if j < D 1 then nI (D (47 + 4 * j)) else 0) → q_At G X_Li_begin (d + 1) 0 0 2 [some (.ref v), some (.ref t), some (.int (nI k))] [] σ1 Q) (n := 6) (fun σ1 fr h1 => ?_) (fun k hk ih σ1 fr h1 => ?_) 0 (Nat.zero_le _) σ Fr.rf (fun j hj => absurd hj (Nat.not_lt_zero j))
  · refine v_Li_begin_2 hv ht (fr.sh hs) ⟨fun _ => hq _ ⟨fr.tr (Fr.tr (Fr.cp (fun i => ⟨by omega, by omega⟩)) (Fr.tr (Fr.setI ⟨by omega, by omega⟩) (Fr.setI ⟨by omega, by omega⟩))), fun i hi => ?_⟩, fun c => absurd (by decide) c⟩
    rcases clc_cases v hi with ⟨a, e⟩ | ⟨k, a, b, e⟩ | ⟨k, a, b, e⟩ | ⟨a, e⟩ | ⟨a, e⟩
    · rw [e, stL_home a]
      show q_I _ (v + 1) i = _
      rw [q_I_ne (by omega), q_I_ne (by omega), q_I_cpne (by omega)]
      exact (h1 i a).1
    · rw [e, b, stL_coin a]
      show q_I _ (v + 2) k = _
      rw [q_I_ne (by omega), q_I_ne (by omega), q_I_cpne (by omega)]
      exact (h1 k a).2
    · rw [e, b, stL_debt a]
      show q_I _ (v + 3) k = _
      rw [q_I_ne (by omega), q_I_ne (by omega), q_I_cpin a]
      exact ((kT σ1 fr).2.2.2.1 k a).2.2
    · rw [e, a]
      show q_I _ v 3 = _
      rw [q_I_ne (by omega), q_I_eq]; rfl
    · rw [e, a]
      show q_I _ v 4 = _
      rw [q_I_eq]; rfl
  · refine v_Li_begin_2 hv ht (fr.sh hs) ⟨fun c => ge_not (b := 6) c hk (by decide), fun _ => ⟨k, rfl, hk, fun c => ⟨k, rfl, hk, ?_⟩, fun c => ⟨k, rfl, hk, k, rfl, hk, ?_⟩⟩⟩
    · rw [q_I_ne (by omega), (kT σ1 fr).1.2.1] at c
      have nk : ¬ k < D 1 := fun h => ge_not c h (by omega)
      rw [nI_1]
      refine ih _ (fr.tr (Fr.tr (Fr.setI ⟨by omega, by omega⟩) (Fr.setI ⟨by omega, by omega⟩))) (fun j hj => ?_)
      by_cases cj : j = k
      · subst cj
        rw [q_I_ne (by omega), q_I_eq, q_I_eq, if_neg nk]
        exact ⟨rfl, rfl⟩
      · rw [q_I_ne (by omega), q_I_ne (by omega), q_I_ne (by omega), q_I_ne (by omega)]
        exact h1 j (by omega)
    · rw [q_I_ne (by omega), (kT σ1 fr).1.2.1] at c
      have nk : k < D 1 := Nat.lt_of_not_le (fun h => c (nI_le h (by omega)))
      rw [nI_1]
      refine ih _ (fr.tr (Fr.tr (Fr.setI ⟨by omega, by omega⟩) (Fr.setI ⟨by omega, by omega⟩))) (fun j hj => ?_)
      by_cases cj : j = k
      · subst cj
        rw [q_I_ne (by omega), q_I_eq, q_I_eq, if_pos nk, q_I_ne (by omega)]
        exact ⟨rfl, ((kT σ1 fr).2.2.1 j nk).2.2.2⟩
      · rw [q_I_ne (by omega), q_I_ne (by omega), q_I_ne (a' := v + 2) (by omega), q_I_ne (by omega)]
        exact h1 j (by omega)
theorem isLi_two {v u : Nat} (h1 : q_isLi v) (h2 : q_isLi u) : v = u ∨ v + 3 < u ∨ u + 3 < v := (by decide : ∀ v ∈ q_lLi, ∀ u ∈ q_lLi, v = u ∨ v + 3 < u ∨ u + 3 < v) v h1 u h2
theorem Li_become_ok (hv : q_isLi v) (hu : q_isLi u) (hne : v ≠ u) (hs : q_Sh σ) (hL : CL σ u L) (hq : ∀ σ', Fr (SLi v) noL σ σ' → CL σ' v L → Q none σ') : q_Call G (d + 1) 0 0 X_Li_become [.ref v, .ref u] σ Q := by
  have h2 := isLi_two hv hu
  refine q_cv0 (P := fun σ' => Fr (SLi v) noL σ σ' ∧ CL σ' v L) (by decide +kernel) (Nat.le_of_ble_eq_true rfl) (fun Q hq => ?_) (fun σ' h => hq σ' h.1 h.2)
  refine v_Li_become_0 hv hu hs (hq _ ⟨Fr.tr (Fr.tr (Fr.tr (Fr.tr (Fr.cp (fun i => ⟨by omega, by omega⟩)) (Fr.cp (fun i => ⟨by omega, by omega⟩))) (Fr.cp (fun i => ⟨by omega, by omega⟩))) (Fr.setI ⟨by omega, by omega⟩)) (Fr.setI ⟨by omega, by omega⟩), fun i hi => ?_⟩)
  rcases clc_cases v hi with ⟨a, e⟩ | ⟨k, a, b, e⟩ | ⟨k, a, b, e⟩ | ⟨a, e⟩ | ⟨a, e⟩
  · rw [e]
    show q_I _ (v + 1) i = _
    rw [q_I_ne (by omega), q_I_ne (by omega), q_I_cpne (by omega), q_I_cpne (by omega), q_I_cpin a]
    exact hL.home a
  · rw [e, b]
    show q_I _ (v + 2) k = _
    rw [q_I_ne (by omega), q_I_ne (by omega), q_I_cpne (by omega), q_I_cpin a, q_I_cpne (by omega)]
    exact hL.coin a
  · rw [e, b]
    show q_I _ (v + 3) k = _
    rw [q_I_ne (by omega), q_I_ne (by omega), q_I_cpin a, q_I_cpne (by omega), q_I_cpne (by omega)]
    exact hL.debt a
  · rw [e, a]
    show q_I _ v 3 = _
    rw [q_I_ne (by omega), q_I_eq, q_I_cpne (by omega), q_I_cpne (by omega), q_I_cpne (by omega)]
    exact hL.dr
  · rw [e, a]
    show q_I _ v 4 = _
    rw [q_I_eq, q_I_ne (by omega), q_I_cpne (by omega), q_I_cpne (by omega), q_I_cpne (by omega)]
    exact hL.lp
def SMr (b n : Nat) : Nat → Nat → Prop := fun a i => a = 175 ∧ b ≤ i ∧ i < b + n
theorem M_copies_ok (hs : q_Sh σ) (h1 : b + n ≤ b' ∨ b' + n ≤ b) (h2 : b + n ≤ 1886) (h3 : b' + n ≤ 1886) (hq : ∀ σ', Fr (SMr b' n) noL σ σ' → (∀ i, i < n → q_I σ' 175 (b' + i) = q_I σ 175 (b + i)) → Q none σ') : q_Call G d 0 0 X_M_copies [.ref 159, .int (nI b), .int (nI b'), .int (nI n)] σ Q := by
  refine q_cv0 (P := fun σ' => Fr (SMr b' n) noL σ σ' ∧ (∀ i, i < n → q_I σ' 175 (b' + i) = q_I σ 175 (b + i))) (by decide +kernel) (Nat.le_of_ble_eq_true rfl) (fun Q hq => ?_) (fun σ' h => hq σ' h.1 h.2)
  refine v_M_copies_0 hs ?_
  refine up_ind (R := fun k => ∀ σ1, Fr (SMr b' n) noL σ σ1 → (∀ i, i < k → q_I σ1 175 (b' + i) = q_I σ 175 (b + i)) → q_At G X_M_copies d 0 0 3 [some (.ref 159), some (.int (nI b)), some (.int (nI b')), some (.int (nI n)), some (.int (nI k))] [] σ1 Q) (n := n) (fun σ1 fr g1 => ?_) (fun k hk ih σ1 fr g1 => ?_) 0 (Nat.zero_le _) σ Fr.rf (fun j hj => absurd hj (Nat.not_lt_zero j))
  · exact v_M_copies_3 (fr.sh hs) ⟨fun _ => hq _ ⟨fr, g1⟩, fun c => absurd (Int32.le_refl _) c⟩
  · refine v_M_copies_3 (fr.sh hs) ⟨fun c => ge_not c hk (by omega), fun _ => ⟨b + k, nI_add _ _, by omega, b' + k, nI_add _ _, by omega, ?_⟩⟩
    rw [nI_1]
    refine ih _ (fr.tr (Fr.setI ⟨rfl, by omega, by omega⟩)) (fun j hj => ?_)
    by_cases cj : j = k
    · subst cj
      rw [q_I_eq]
      exact fr.2.2.1 _ _ (by unfold SMr; omega)
    · rw [q_I_ne (by omega)]
      exact g1 j (by omega)
theorem M_starts_ok (hs : q_Sh σ) (hD : WfD D) (hT : MT0 σ D P) (hb : b + 50 ≤ 1886) (hq : ∀ σ', Fr (SMb b) noL σ σ' → ML σ' b (stL D) → Q none σ') : q_Call G (d + 1) 0 0 X_M_starts [.ref 159, .int (nI b)] σ Q := by
  have h6 := hD.F6
  refine q_cv0 (P := fun σ' => Fr (SMb b) noL σ σ' ∧ ML σ' b (stL D)) (by decide +kernel) (Nat.le_of_ble_eq_true rfl) (fun Q hq => ?_) (fun σ' h => hq σ' h.1 h.2)
  have kT : ∀ σ1, Fr (SMb b) noL σ σ1 → MT0 σ1 D P := fun σ1 fr => hT.fr fr (fun a i h => by unfold SMb at h; omega)
  refine v_M_starts_0 hs ?_
  have e0 : ∀ k, nI b + 0 + nI k = nI (b + k) := fun k => by rw [Int32.add_zero, nI_add]
  have e6 : ∀ k, nI b + 6 + nI k = nI (b + (6 + k)) := fun k => by rw [q_lit 6, nI_add, nI_add]; congr 1; omega
  have e12 : ∀ k, nI b + 12 + nI k = nI (b + (12 + k)) := fun k => by rw [q_lit 12, nI_add, nI_add]; congr 1; omega
  have loop2 := up_ind (R := fun k => ∀ σ1, Fr (SMb b) noL σ σ1 → (∀ j, j < 12 + k → q_I σ1 175 (b + j) = stL D j) → q_At G X_M_starts (d + 1) 0 0 56 [some (.ref 159), some (.int (nI b)), some (.int (nI k))] [] σ1 Q) (n := 36) (fun σ1 fr h1 => ?_) (fun k hk ih σ1 fr h1 => ?_)
  rotate_left
  · refine v_M_starts_56 (fr.sh hs) ⟨fun _ => ⟨b + 48, nI_add _ _, by omega, b + 49, nI_add _ _, by omega, hq _ ⟨fr.tr (Fr.tr (Fr.setI ⟨rfl, by omega, by omega⟩) (Fr.setI ⟨rfl, by omega, by omega⟩)), fun i hi => ?_⟩⟩, fun c => absurd (by decide) c⟩
    by_cases c1 : i = 49
    · subst c1
      rw [q_I_eq]; rfl
    · rw [q_I_ne (by omega)]
      by_cases c2 : i = 48
      · subst c2
        rw [q_I_eq]; rfl
      · rw [q_I_ne (by omega)]
        exact h1 i (by omega)
  · refine v_M_starts_56 (fr.sh hs) ⟨fun c => ge_not (b := 36) c hk (by decide), fun _ => ⟨140 + k, nI_add _ _, by omega, b + (12 + k), e12 k, by omega, ?_⟩⟩
    rw [nI_1]
    refine ih _ (fr.tr (Fr.setI ⟨rfl, by omega, by omega⟩)) (fun j hj => ?_)
    by_cases cj : j = 12 + k
    · subst cj
      rw [q_I_eq, stL_debt hk]
      exact (kT σ1 fr).1 _ (by omega) (by omega)
    · rw [q_I_ne (by omega)]
      exact h1 j (by omega)
  refine up_ind (R := fun k => ∀ σ1, Fr (SMb b) noL σ σ1 → (∀ j, j < k → q_I σ1 175 (b + j) = stL D j ∧ q_I σ1 175 (b + (6 + j)) = stL D (6 + j)) → q_At G X_M_starts (d + 1) 0 0 2 [some (.ref 159), some (.int (nI b)), some (.int (nI k))] [] σ1 Q) (n := 6) (fun σ1 fr h1 => ?_) (fun k hk ih σ1 fr h1 => ?_) 0 (Nat.zero_le _) σ Fr.rf (fun j hj => absurd hj (Nat.not_lt_zero j))
  · refine v_M_starts_2 (fr.sh hs) ⟨fun _ => loop2 0 (Nat.zero_le _) σ1 fr (fun j hj => ?_), fun c => absurd (by decide) c⟩
    by_cases c : j < 6
    · exact (h1 j c).1
    · have := (h1 (j - 6) (by omega)).2
      rwa [show 6 + (j - 6) = j by omega] at this
  · refine v_M_starts_2 (fr.sh hs) ⟨fun c => ge_not (b := 6) c hk (by decide), fun _ => ⟨b + k, e0 k, by omega, fun c => ⟨b + (6 + k), e6 k, by omega, ?_⟩, fun c => ?_⟩⟩
    · rw [q_I_ne (by omega), (kT σ1 fr).F] at c
      have nk : ¬ k < D 1 := fun h => ge_not c h (by omega)
      rw [nI_1]
      refine ih _ (fr.tr (Fr.tr (Fr.setI ⟨rfl, by omega, by omega⟩) (Fr.setI ⟨rfl, by omega, by omega⟩))) (fun j hj => ?_)
      by_cases cj : j = k
      · subst cj
        rw [q_I_ne (by omega), q_I_eq, q_I_eq, stL_home hk, stL_coin hk, if_neg nk]
        exact ⟨rfl, rfl⟩
      · rw [q_I_ne (by omega), q_I_ne (by omega), q_I_ne (by omega), q_I_ne (by omega)]
        exact h1 j (by omega)
    · have fr2 : Fr (SMb b) noL σ (q_setI σ1 175 (b + k) (nI k)) := fr.tr (Fr.setI ⟨rfl, by omega, by omega⟩)
      rw [(kT _ fr2).F] at c
      have nk : k < D 1 := Nat.lt_of_not_le (fun h => c (nI_le h (by omega)))
      refine M_fam_ok (k := 3) (fr2.sh hs) hD (kT _ fr2) nk (by decide) ⟨fr2.sh hs, _, rfl, b + (6 + k), e6 k, by omega, ?_⟩
      rw [nI_1]
      refine ih _ (fr2.tr (Fr.setI ⟨rfl, by omega, by omega⟩)) (fun j hj => ?_)
      by_cases cj : j = k
      · subst cj
        rw [q_I_ne (by omega), q_I_eq, q_I_eq, stL_home hk, stL_coin hk, if_pos nk]
        exact ⟨rfl, by rw [show 44 + 4 * j + 3 = 47 + 4 * j by omega]⟩
      · rw [q_I_ne (by omega), q_I_ne (by omega), q_I_ne (by omega), q_I_ne (by omega)]
        exact h1 j (by omega)
end LIFE2
