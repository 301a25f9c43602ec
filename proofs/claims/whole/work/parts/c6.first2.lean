theorem Fr.si {SI SL : Nat → Nat → Prop} {σ σ' : q_S} (h : Fr SI SL σ σ') (hs : q_Si σ) : q_Si σ' := ⟨h.1.trans hs.1, fun x hx g => by rw [h.2.1]; exact hs.2 x hx g⟩
section FIRST
variable {G : q_G} {d b : Nat} {σ σ' σ1 : q_S} {Q : Option Value → q_S → Prop} {D : Nat → Nat} {P : Nat → List Int32}
theorem Mi_stands_ok {b : Nat} (hb : b + 200 ≤ 400) (hs : q_Si σ) (hq : ∀ σ', Fr (fun a i => a = 165 ∧ b ≤ i ∧ i < b + 200) noL σ σ' → (∀ j, j < 200 → ¬ (5 ≤ j ∧ j < 8) → q_I σ' 165 (b + j) = 0) → (∀ w, w < 3 → q_I σ' 165 (b + 5 + w) = -1) → Q none σ') : q_Call G d 0 0 X_M_standsAsAlways [.ref 159, .int (nI b)] σ Q := by
  refine q_cv0 (P := fun σ' => Fr (fun a i => a = 165 ∧ b ≤ i ∧ i < b + 200) noL σ σ' ∧ (∀ j, j < 200 → ¬ (5 ≤ j ∧ j < 8) → q_I σ' 165 (b + j) = 0) ∧ ∀ w, w < 3 → q_I σ' 165 (b + 5 + w) = -1) (by decide +kernel) (Nat.le_of_ble_eq_true rfl) (fun Q hq => ?_) (fun σ' h => hq σ' h.1 h.2.1 h.2.2)
  refine vi_M_standsAsAlways_0 hs ?_
  refine up_ind (R := fun k => ∀ σ1, Fr (fun a i => a = 165 ∧ b ≤ i ∧ i < b + 200) noL σ σ1 → (∀ j, j < k → q_I σ1 165 (b + j) = 0) → q_At G X_M_standsAsAlways d 0 0 2 [some (.ref 159), some (.int (nI b)), some (.int (nI k))] [] σ1 Q) (n := 200) (fun σ1 f1 g1 => ?_) (fun k hk ih σ1 f1 g1 => ?_) 0 (Nat.zero_le _) σ Fr.rf (fun j hj => absurd hj (Nat.not_lt_zero j))
  · refine vi_M_standsAsAlways_2 (f1.si hs) ⟨fun _ => ?_, fun z => absurd (by decide) z⟩
    refine up_ind (R := fun k => ∀ σ2, Fr (fun a i => a = 165 ∧ b ≤ i ∧ i < b + 200) noL σ σ2 → (∀ j, j < 200 → ¬ (5 ≤ j ∧ j < 8) → q_I σ2 165 (b + j) = 0) → (∀ w, w < k → q_I σ2 165 (b + 5 + w) = -1) → q_At G X_M_standsAsAlways d 0 0 26 [some (.ref 159), some (.int (nI b)), some (.int (nI k))] [] σ2 Q) (n := 3) (fun σ2 f2 g2 h2 => ?_) (fun k hk ih σ2 f2 g2 h2 => ?_) 0 (Nat.zero_le _) σ1 f1 (fun j h _ => g1 j h) (fun w h => absurd h (Nat.not_lt_zero w))
    · exact vi_M_standsAsAlways_26 (f2.si hs) ⟨fun _ => hq _ ⟨f2, g2, h2⟩, fun z => absurd (by decide) z⟩
    · refine vi_M_standsAsAlways_26 (f2.si hs) ⟨fun z => ge_not (a := k) (b := 3) z hk (by decide), fun _ => ⟨b + 5 + k, by rw [show (5 : Int32) = nI 5 from rfl, nI_add, nI_add], by omega, ?_⟩⟩
      rw [nI_1]
      refine ih _ (f2.tr (Fr.setI ⟨rfl, by omega, by omega⟩)) (fun j h1 h3 => by rw [q_I_ne (by omega)]; exact g2 j h1 h3) (fun w hw => ?_)
      by_cases e : w = k
      · subst e
        exact q_I_eq
      · rw [q_I_ne (by omega)]
        exact h2 w (by omega)
  · refine vi_M_standsAsAlways_2 (f1.si hs) ⟨fun z => ge_not (a := k) (b := 200) z hk (by decide), fun _ => ⟨b + k, by rw [nI_add], by omega, ?_⟩⟩
    rw [nI_1]
    refine ih _ (f1.tr (Fr.setI ⟨rfl, by omega, by omega⟩)) (fun j hj => ?_)
    by_cases e : j = k
    · subst e
      exact q_I_eq
    · rw [q_I_ne (by omega)]
      exact g1 j (by omega)
theorem Mi_noises_ok (hs : q_Si σ) (h0 : D 1 = 0) (hT : MT0 σ D P) (hq : ∀ σ', Fr Sn noL σ σ' → MT σ' D P → Q none σ') : q_Call G (d + 2) 0 0 X_M_laysNoises [.ref 159] σ Q := by
  refine q_cv0 (P := fun σ' => σ' = σ) (by decide +kernel) (Nat.le_of_ble_eq_true rfl) (fun Q hq => ?_) (fun σ' h => by subst h; exact hq σ' Fr.rf ⟨hT, fun f e k h => absurd h (by omega)⟩)
  refine vi_M_laysNoises_0 hs ?_
  have hF := hT.F
  rw [h0] at hF
  refine up_ind (R := fun k => q_At G X_M_laysNoises (d + 2) 0 0 2 [some (.ref 159), some (.int (nI k)), none, none, none] [] σ Q) (n := 360) ?_ (fun k hk ih => ?_) 0 (Nat.zero_le _)
  · exact vi_M_laysNoises_2 hs ⟨fun _ => hq σ rfl, fun c => absurd (by decide) c⟩
  · have d1 : nI k / 60 = nI (k / 60) := k_div hk (by decide) (by decide)
    refine vi_M_laysNoises_2 hs ⟨fun c => ge_not (a := k) (b := 360) c hk (by decide), fun _ => ⟨fun _ => by rw [nI_1]; exact ih, fun c => absurd (by rw [hF, d1]; exact nI_le (Nat.zero_le _) (by omega)) c⟩⟩
theorem Mi_starts_ok (hs : q_Si σ) (h0 : D 1 = 0) (hT : MT0 σ D P) (hb : b + 50 ≤ 1886) (hq : ∀ σ', Fr (SMb b) noL σ σ' → ML σ' b (stL D) → Q none σ') : q_Call G (d + 1) 0 0 X_M_starts [.ref 159, .int (nI b)] σ Q := by
  have h6 : D 1 ≤ 6 := by omega
  refine q_cv0 (P := fun σ' => Fr (SMb b) noL σ σ' ∧ ML σ' b (stL D)) (by decide +kernel) (Nat.le_of_ble_eq_true rfl) (fun Q hq => ?_) (fun σ' h => hq σ' h.1 h.2)
  have kT : ∀ σ1, Fr (SMb b) noL σ σ1 → MT0 σ1 D P := fun σ1 fr => hT.fr fr (fun a i h => by unfold SMb at h; omega)
  refine vi_M_starts_0 hs ?_
  have e0 : ∀ k, nI b + 0 + nI k = nI (b + k) := fun k => by rw [Int32.add_zero, nI_add]
  have e6 : ∀ k, nI b + 6 + nI k = nI (b + (6 + k)) := fun k => by rw [q_lit 6, nI_add, nI_add]; congr 1; omega
  have e12 : ∀ k, nI b + 12 + nI k = nI (b + (12 + k)) := fun k => by rw [q_lit 12, nI_add, nI_add]; congr 1; omega
  have loop2 := up_ind (R := fun k => ∀ σ1, Fr (SMb b) noL σ σ1 → (∀ j, j < 12 + k → q_I σ1 175 (b + j) = stL D j) → q_At G X_M_starts (d + 1) 0 0 56 [some (.ref 159), some (.int (nI b)), some (.int (nI k))] [] σ1 Q) (n := 36) (fun σ1 fr h1 => ?_) (fun k hk ih σ1 fr h1 => ?_)
  rotate_left
  · refine vi_M_starts_56 (fr.si hs) ⟨fun _ => ⟨b + 48, nI_add _ _, by omega, b + 49, nI_add _ _, by omega, hq _ ⟨fr.tr (Fr.tr (Fr.setI ⟨rfl, by omega, by omega⟩) (Fr.setI ⟨rfl, by omega, by omega⟩)), fun i hi => ?_⟩⟩, fun c => absurd (by decide) c⟩
    by_cases c1 : i = 49
    · subst c1
      rw [q_I_eq]; rfl
    · rw [q_I_ne (by omega)]
      by_cases c2 : i = 48
      · subst c2
        rw [q_I_eq]; rfl
      · rw [q_I_ne (by omega)]
        exact h1 i (by omega)
  · refine vi_M_starts_56 (fr.si hs) ⟨fun c => ge_not (b := 36) c hk (by decide), fun _ => ⟨140 + k, nI_add _ _, by omega, b + (12 + k), e12 k, by omega, ?_⟩⟩
    rw [nI_1]
    refine ih _ (fr.tr (Fr.setI ⟨rfl, by omega, by omega⟩)) (fun j hj => ?_)
    by_cases cj : j = 12 + k
    · subst cj
      rw [q_I_eq, stL_debt hk]
      exact (kT σ1 fr).1 _ (by omega) (by omega)
    · rw [q_I_ne (by omega)]
      exact h1 j (by omega)
  refine up_ind (R := fun k => ∀ σ1, Fr (SMb b) noL σ σ1 → (∀ j, j < k → q_I σ1 175 (b + j) = stL D j ∧ q_I σ1 175 (b + (6 + j)) = stL D (6 + j)) → q_At G X_M_starts (d + 1) 0 0 2 [some (.ref 159), some (.int (nI b)), some (.int (nI k))] [] σ1 Q) (n := 6) (fun σ1 fr h1 => ?_) (fun k hk ih σ1 fr h1 => ?_) 0 (Nat.zero_le _) σ Fr.rf (fun j hj => absurd hj (Nat.not_lt_zero j))
  · refine vi_M_starts_2 (fr.si hs) ⟨fun _ => loop2 0 (Nat.zero_le _) σ1 fr (fun j hj => ?_), fun c => absurd (by decide) c⟩
    by_cases c : j < 6
    · exact (h1 j c).1
    · have := (h1 (j - 6) (by omega)).2
      rwa [show 6 + (j - 6) = j by omega] at this
  · refine vi_M_starts_2 (fr.si hs) ⟨fun c => ge_not (b := 6) c hk (by decide), fun _ => ⟨b + k, e0 k, by omega, fun c => ⟨b + (6 + k), e6 k, by omega, ?_⟩, fun c => ?_⟩⟩
    · rw [q_I_ne (by omega), (kT σ1 fr).F] at c
      have nk : ¬ k < D 1 := fun h => ge_not c h (by omega)
      rw [nI_1]
      refine ih _ (fr.tr (Fr.tr (Fr.setI ⟨rfl, by omega, by omega⟩) (Fr.setI ⟨rfl, by omega, by omega⟩))) (fun j hj => ?_)
      by_cases cj : j = k
      · subst cj
        rw [q_I_ne (by omega), q_I_eq, q_I_eq, stL_home hk, stL_coin hk, if_neg nk]
        exact ⟨rfl, rfl⟩
      · rw [q_I_ne (by omega), q_I_ne (by omega), q_I_ne (by omega), q_I_ne (by omega)]
        exact h1 j (by omega)
    · have fr2 : Fr (SMb b) noL σ (q_setI σ1 175 (b + k) (nI k)) := fr.tr (Fr.setI ⟨rfl, by omega, by omega⟩)
      rw [(kT _ fr2).F] at c
      have nk : k < D 1 := Nat.lt_of_not_le (fun h => c (nI_le h (by omega)))
      exact absurd nk (by omega)
theorem Mi_begins_ok (hd : 3 ≤ d) (hs : q_Si σ) (h0 : D 1 = 0) (hT : MT0 σ D P) (hq : ∀ σ', Fr SBm noL σ σ' → MT σ' D P → ML σ' 0 (stL D) → q_I σ' 175 50 = 0 → q_I σ' 172 0 = 0 → q_I σ' 159 25 = 0 → (∀ m, m < 4 → q_I σ' 176 m = 0) → Q none σ') : q_Call G d 0 0 X_M_begins [.ref 159] σ Q := by
  obtain ⟨d, rfl⟩ : ∃ d', d = d' + 2 + 1 := ⟨d - 3, by omega⟩
  refine q_cv0 (P := fun σ' => Fr SBm noL σ σ' ∧ MT σ' D P ∧ ML σ' 0 (stL D) ∧ q_I σ' 175 50 = 0 ∧ q_I σ' 172 0 = 0 ∧ q_I σ' 159 25 = 0 ∧ ∀ m, m < 4 → q_I σ' 176 m = 0) (by decide +kernel) (Nat.le_of_ble_eq_true rfl) (fun Q hq => ?_) (fun σ' h => hq σ' h.1 h.2.1 h.2.2.1 h.2.2.2.1 h.2.2.2.2.1 h.2.2.2.2.2.1 h.2.2.2.2.2.2)
  refine vi_M_begins_0 hs (Mi_noises_ok hs h0 hT (fun σ1 f1 T1 => ⟨f1.si hs, rfl, ?_⟩))
  have hs1 := f1.si hs
  refine Mi_starts_ok (b := 0) (d := d + 1) hs1 h0 T1.1 (by decide) (fun σ2 f2 L2 => ⟨f2.si hs1, rfl, ?_⟩)
  have F2 : Fr SBm noL σ σ2 := (f1.mono (fun a j z => by unfold Sn at z; unfold SBm; omega) (fun _ _ z => z)).tr (f2.mono (fun a j z => by unfold SMb at z; unfold SBm; omega) (fun _ _ z => z))
  have T2 := T1.fr f2 (fun a j z => by unfold SMb at z; omega)
  have f3 : Fr (fun a j => (a = 175 ∧ j = 50) ∨ (a = 172 ∧ j = 0) ∨ (a = 159 ∧ j = 25)) noL σ2 (q_setI (q_setI (q_setI σ2 175 50 0) 172 0 0) 159 25 0) := ((Fr.setI (Or.inl ⟨rfl, rfl⟩)).tr (Fr.setI (Or.inr (Or.inl ⟨rfl, rfl⟩)))).tr (Fr.setI (Or.inr (Or.inr ⟨rfl, rfl⟩)))
  have T3 := T2.fr f3 (fun a j z => by omega)
  have L3 := L2.keep (σ' := q_setI (q_setI (q_setI σ2 175 50 0) 172 0 0) 159 25 0) (fun j b1 b2 => f3.2.2.1 _ _ (fun z => by omega))
  have F3 : Fr SBm noL σ (q_setI (q_setI (q_setI σ2 175 50 0) 172 0 0) 159 25 0) := F2.tr (f3.mono (fun a j z => by unfold SBm; omega) (fun _ _ z => z))
  refine up_ind (R := fun k => ∀ σ3, Fr (fun a _ => a = 176) noL (q_setI (q_setI (q_setI σ2 175 50 0) 172 0 0) 159 25 0) σ3 → (∀ m, m < k → q_I σ3 176 m = 0) → q_At G X_M_begins (d + 2 + 1) 0 0 31 [some (.ref 159), some (.int (nI k))] [] σ3 Q) (n := 4) (fun σ3 f4 g4 => ?_) (fun k hk ih σ3 f4 g4 => ?_) 0 (Nat.zero_le _) _ Fr.rf (fun m hm => absurd hm (Nat.not_lt_zero m))
  · have F4 := F3.tr (f4.mono (SI' := SBm) (SL' := noL) (fun a j z => by unfold SBm; omega) (fun _ _ z => z))
    refine vi_M_begins_31 (F4.si hs) ⟨fun _ => hq _ ⟨F4, T3.fr f4 (fun a j z => by omega), L3.keep (fun j b1 b2 => f4.2.2.1 _ _ (fun z => by omega)), ?_, ?_, ?_, g4⟩, fun z => absurd (by decide) z⟩
    · rw [f4.2.2.1 _ _ (fun z => by omega), q_I_ne (by decide), q_I_ne (by decide), q_I_eq]
    · rw [f4.2.2.1 _ _ (fun z => by omega), q_I_ne (by decide), q_I_eq]
    · rw [f4.2.2.1 _ _ (fun z => by omega), q_I_eq]
  · have F4 := F3.tr (f4.mono (SI' := SBm) (SL' := noL) (fun a j z => by unfold SBm; omega) (fun _ _ z => z))
    refine vi_M_begins_31 (F4.si hs) ⟨fun z => ge_not (a := k) (b := 4) z hk (by decide), fun _ => ⟨k, rfl, hk, ?_⟩⟩
    rw [nI_1]
    refine ih _ (f4.tr (Fr.setI rfl)) (fun m hm => ?_)
    by_cases e : m = k
    · subst e
      rw [q_I_eq]
      rfl
    · rw [q_I_ne (by omega)]
      exact g4 m (by omega)
-- the whole constructor of the reference
def D00 : Nat → Nat := fun _ => 0
def M00 (σ' : q_S) : Prop := (q_n σ' = 182 ∧ (∀ x ∈ fsM, q_R σ' x.1 x.2.1 = some x.2.2) ∧ (∀ a i, a < 159 → q_I σ' a i = 0) ∧ (∀ a i, a < 159 → q_L σ' a i = 0)) ∧ (∀ k, k < 33 → q_L σ' 164 k = q_w37.getD k 0) ∧ MT σ' D00 dflt ∧ ML σ' 0 (stL D00) ∧ q_I σ' 175 50 = 0 ∧ q_I σ' 172 0 = 0 ∧ q_I σ' 159 25 = 0 ∧ (∀ m, m < 4 → q_I σ' 176 m = 0) ∧ q_I σ' 159 18 = 0 ∧ q_I σ' 159 2 = 0
theorem q4_callM (P : q_S → Prop) {X Y : q_M} {pc nx idx n ci a : Nat} {ls : List (Option Value)} {st As : List Value} (hs : q_n σ = 182) (hd : q_D X pc (.invokevirtual idx) 3 nx) (hC : q_CV (m_y X).cls idx Y n ci) (hk0 : q_kd a = (0, ci)) (hn : As.length = n) (hst : q_cats st ≤ 8) (h : q_Call G d 0 0 Y (.ref a :: As) σ (fun r σ' => r = none ∧ q_n σ' = 182 ∧ P σ')) (ha : a < 182) (hq : ∀ σ1, P σ1 → q_At G X (d + 1) 0 0 nx ls st σ1 Q) : q_At G X (d + 1) 0 0 pc ls (As.reverse ++ .ref a :: st) σ Q := q_callV (b := 0) (sb := 0) (b1 := 0) (sb1 := 0) hd hC hk0 (by rw [hs]; exact ha) hn hst h (fun r σ1 hr => by obtain ⟨rfl, h1, h2⟩ := hr; exact ⟨q_no_v, fun _ => (by rw [hs, h1]; exact Nat.le_refl _), hq σ1 h2⟩)
theorem M_init_ok (hB0 : Bn 160 fsW [] σ) : q_Call G (d + 4) 22 16823 X_M_init [.ref 159] σ (fun r σ' => r = none ∧ M00 σ') := by
  refine q_enter (by decide +kernel) (Nat.le_of_ble_eq_true rfl) ?_
  refine M_init_w (d := d + 3) hB0 (fun σ1 hB => ?_)
  have hs1 : q_Si σ1 := ⟨hB.1, fun x hx h => (hB.2.2.2 x (List.mem_append_left _ (List.mem_filter.mpr ⟨hx, decide_eq_true h⟩))).2⟩
  refine q4_callM (fun σ2 => Fr (fun a i => a = 165 ∧ 0 ≤ i ∧ i < 0 + 200) noL σ1 σ2 ∧ (∀ j, j < 200 → ¬ (5 ≤ j ∧ j < 8) → q_I σ2 165 (0 + j) = 0) ∧ ∀ w, w < 3 → q_I σ2 165 (0 + 5 + w) = -1) (a := 159) (As := [.int 0]) (st := []) hB.1 o_M_init_418 k_M_155 rfl rfl (Nat.le_of_ble_eq_true rfl) (Mi_stands_ok (b := 0) (by decide) hs1 (fun σ2 f2 g2 g3 => ⟨rfl, f2.1.trans hB.1, f2, g2, g3⟩)) (by decide) (fun σ2 h2 => ?_)
  obtain ⟨f2, g2, g3⟩ := h2
  have hs2 := f2.si hs1
  have hT : MT0 σ2 D00 dflt := ⟨fun i h1 h2 => by have := g2 i h1 h2; rw [Nat.zero_add] at this; exact this, fun w hw => Or.inl ⟨by have := g3 w hw; rw [Nat.zero_add] at this; exact this, rfl⟩⟩
  refine q_aload_n o_M_init_421 rfl ?_
  refine q4_callM (fun σ3 => Fr SBm noL σ2 σ3 ∧ MT σ3 D00 dflt ∧ ML σ3 0 (stL D00) ∧ q_I σ3 175 50 = 0 ∧ q_I σ3 172 0 = 0 ∧ q_I σ3 159 25 = 0 ∧ ∀ m, m < 4 → q_I σ3 176 m = 0) (a := 159) (As := []) (st := []) hs2.1 o_M_init_422 k_M_159 rfl rfl (Nat.le_of_ble_eq_true rfl) (Mi_begins_ok (by omega) hs2 rfl hT (fun σ3 f3 a1 a2 a3 a4 a5 a6 => ⟨rfl, f3.1.trans hs2.1, f3, a1, a2, a3, a4, a5, a6⟩)) (by decide) (fun σ3 h3 => ?_)
  obtain ⟨f3, a1, a2, a3, a4, a5, a6⟩ := h3
  have kI : ∀ a i, a < 182 → ¬ (a = 165 ∧ i < 200) → ¬ SBm a i → q_I σ3 a i = 0 := fun a i h1 h2 h3 => by rw [f3.2.2.1 _ _ h3, f2.2.2.1 _ _ (fun z => h2 ⟨z.1, by omega⟩)]; exact hB.2.1 a i h1
  have kL : ∀ a i, a < 182 → q_L σ3 a i = if a = 164 then q_w37.getD i 0 else 0 := fun a i h1 => by rw [f3.2.2.2 _ _ (fun z => z), f2.2.2.2 _ _ (fun z => z)]; exact hB.2.2.1 a i h1
  refine q_vre o_M_init_425 rfl ⟨q_no_v, rfl, ⟨f3.1.trans hs2.1, fun x hx => by rw [f3.2.1, f2.2.1]; exact (hB.2.2.2 x hx).2, fun a i h => kI a i (by omega) (by omega) (by unfold SBm; omega), fun a i h => by rw [kL a i (by omega), if_neg (by omega)]⟩, fun k hk => by rw [kL 164 k (by decide), if_pos rfl], a1, a2, a3, a4, a5, a6, kI _ _ (by decide) (by omega) (by unfold SBm; omega), kI _ _ (by decide) (by omega) (by unfold SBm; omega)⟩
end FIRST
