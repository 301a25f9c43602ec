def SLf (a0 : Nat) : Nat → Nat → Prop := fun a i => (a = a0 ∧ i = 5) ∨ (a0 + 1 ≤ a ∧ a ≤ a0 + 4)
theorem unt_tk : ∀ k, k < 15 → q_unt.take (k + 1) = q_unt.take k ++ [q_unt.getD k 0] := by decide +kernel
theorem unt_seg : (∀ j, j < 5 → q_unt.getD (0 + j) 0 = (dflt 0).getD j 0) ∧ (∀ j, j < 3 → q_unt.getD (5 + j) 0 = (dflt 1).getD j 0) ∧ (∀ j, j < 7 → q_unt.getD (8 + j) 0 = (dflt 2).getD j 0) := by decide +kernel
theorem CT0.k12 {σ σ' : q_S} {t : Nat} {D : Nat → Nat} {P : Nat → List Int32} (h : CT0 σ t D P) (hI : ∀ a i, TC t a i → a ≠ t + 12 → q_I σ' a i = q_I σ a i) (hL : ∀ i, q_L σ' (t + 11) i = q_L σ (t + 11) i) : CT0 σ' t D P := by
  obtain ⟨⟨a1, a2, a3, a4, a5⟩, h2, h3, h4, h5, h6, h7⟩ := h
  have z : ∀ i, 13 ≤ i → q_I σ' t i = q_I σ t i := fun i hi => hI t i (Or.inl ⟨rfl, hi⟩) (by omega)
  have y : ∀ k i, 3 ≤ k → k ≤ 11 → q_I σ' (t + k) i = q_I σ (t + k) i := fun k i g1 g2 => hI (t + k) i (Or.inr (Or.inl ⟨by omega, by omega⟩)) (by omega)
  have x : ∀ k i, 14 ≤ k → k ≤ 16 → q_I σ' (t + k) i = q_I σ (t + k) i := fun k i g1 g2 => hI (t + k) i (Or.inr (Or.inr ⟨by omega, by omega⟩)) (by omega)
  refine ⟨⟨by rw [z 13 (by decide), a1], by rw [z 14 (by decide), a2], by rw [z 15 (by decide), a3], by rw [z 16 (by decide), a4], by rw [z 17 (by decide), a5]⟩, fun i hi => by rw [y 7 i (by decide) (by decide), h2 i hi], fun f hf => ?_, fun i hi => ?_, fun k hk => by rw [hL, h5 k hk], fun k hk => by rw [hL, h6 k hk], fun w hw h0 => ?_⟩
  · obtain ⟨g1, g2, g3, g4⟩ := h3 f hf
    exact ⟨by rw [y 3 f (by decide) (by decide), g1], by rw [y 4 f (by decide) (by decide), g2], by rw [y 5 f (by decide) (by decide), g3], by rw [y 6 f (by decide) (by decide), g4]⟩
  · obtain ⟨g1, g2, g3⟩ := h4 i hi
    exact ⟨by rw [y 8 i (by decide) (by decide), g1], by rw [y 9 i (by decide) (by decide), g2], by rw [y 10 i (by decide) (by decide), g3]⟩
  · obtain ⟨lo, hi, g1, g2, g3, g4, g5, g6⟩ := h7 w hw h0
    exact ⟨lo, hi, by rw [x 15 w (by decide) (by decide), g1], by rw [x 16 w (by decide) (by decide), g2], g3, g4, g5, fun i hi => by rw [x 14 _ (by decide) (by decide), g6 i hi]⟩
section CTOWN
variable {G : q_G} {d : Nat} {σ σ' σ1 : q_S} {Q : Option Value → q_S → Prop} {tp : List Nat} {i t M a0 : Nat} {s : q_ts} {S : List Int32} {D : Nat → Nat} {P : Nat → List Int32}
theorem La_place_ok {w : Nat} {x y : Int32} (ha : q_isLa a0) (hw3 : w < 3) (hs : q_Sh σ) (hq : Q none (q_setI (q_setI (q_setI σ (a0 + 2) w x) (a0 + 3) w y) (a0 + 4) w 0)) : q_Call G d 0 0 X_La_placeLaw [.ref a0, .int (nI w), .int x, .int y] σ Q := by
  refine q_cv0 (P := fun σ' => σ' = q_setI (q_setI (q_setI σ (a0 + 2) w x) (a0 + 3) w y) (a0 + 4) w 0) (by decide +kernel) (Nat.le_of_ble_eq_true rfl) (fun Q hq => ?_) (fun σ' h => by rw [h]; exact hq)
  exact v_La_placeLaw_0 ha hs ⟨w, rfl, hw3, w, rfl, hw3, w, rfl, hw3, hq _ rfl⟩
theorem La_forget_ok (hd : 1 ≤ d) (ha : q_isLa a0) (hs : q_Sh σ) (hq : ∀ σ', Fr (SLf a0) noL σ σ' → CS σ' a0 q_unt → (∀ w, w < 3 → q_I σ' (a0 + 4) w = 0) → (q_I σ' (a0 + 2) 0 = nI 0 ∧ q_I σ' (a0 + 3) 0 = nI 5 ∧ q_I σ' (a0 + 2) 1 = nI 5 ∧ q_I σ' (a0 + 3) 1 = nI 8 ∧ q_I σ' (a0 + 2) 2 = nI 8 ∧ q_I σ' (a0 + 3) 2 = nI 15) → Q none σ') : q_Call G d 0 0 X_La_forget [.ref a0] σ Q := by
  obtain ⟨d, rfl⟩ : ∃ d', d = d' + 1 := ⟨d - 1, by omega⟩
  have h0 := isLa_cases ha
  refine q_cv0 (P := fun σ' => Fr (SLf a0) noL σ σ' ∧ CS σ' a0 q_unt ∧ (∀ w, w < 3 → q_I σ' (a0 + 4) w = 0) ∧ (q_I σ' (a0 + 2) 0 = nI 0 ∧ q_I σ' (a0 + 3) 0 = nI 5 ∧ q_I σ' (a0 + 2) 1 = nI 5 ∧ q_I σ' (a0 + 3) 1 = nI 8 ∧ q_I σ' (a0 + 2) 2 = nI 8 ∧ q_I σ' (a0 + 3) 2 = nI 15)) (by decide +kernel) (Nat.le_of_ble_eq_true rfl) (fun Q hq => ?_) (fun σ' h => hq σ' h.1 h.2.1 h.2.2.1 h.2.2.2)
  refine v_La_forget_0 ha hs ?_
  refine up_ind (R := fun k => ∀ σ1, Fr (SLf a0) noL σ σ1 → CS σ1 a0 (q_unt.take k) → q_At G X_La_forget (d + 1) 0 0 7 [some (.ref a0), some (.int (nI k))] [] σ1 Q) (n := 15) (fun σ1 f1 c1 => ?_) (fun k hk ih σ1 f1 c1 => ?_) 0 (Nat.zero_le _) _ (Fr.setI (Or.inl ⟨rfl, rfl⟩)) ⟨q_I_eq, fun j hj => absurd hj (Nat.not_lt_zero j)⟩
  · have hs1 := f1.sh hs
    refine v_La_forget_7 ha hs1 ⟨fun _ => ?_, fun c => absurd (Int32.le_refl _) c⟩
    refine La_place_ok (w := 0) ha (by decide) hs1 ⟨hs1, rfl, La_place_ok (w := 1) ha (by decide) hs1 ⟨hs1, rfl, La_place_ok (w := 2) ha (by decide) hs1 ⟨hs1, rfl, hq _ ⟨?_, ?_, ?_, ?_⟩⟩⟩⟩
    · have m : ∀ {σ2 : q_S} {k i : Nat} {v : Int32}, 1 ≤ k → k ≤ 4 → Fr (SLf a0) noL σ2 (q_setI σ2 (a0 + k) i v) := fun h1 h2 => Fr.setI (Or.inr ⟨by omega, by omega⟩)
      exact ((((((((f1.tr (m (by decide) (by decide))).tr (m (by decide) (by decide))).tr (m (by decide) (by decide))).tr (m (by decide) (by decide))).tr (m (by decide) (by decide))).tr (m (by decide) (by decide))).tr (m (by decide) (by decide))).tr (m (by decide) (by decide))).tr (m (by decide) (by decide))
    · have e : q_unt.take 15 = q_unt := by decide +kernel
      rw [e] at c1
      refine ⟨?_, fun j hj => ?_⟩
      · rw [q_I_ne (by omega), q_I_ne (by omega), q_I_ne (by omega), q_I_ne (by omega), q_I_ne (by omega), q_I_ne (by omega), q_I_ne (by omega), q_I_ne (by omega), q_I_ne (by omega)]; exact c1.1
      · rw [q_I_ne (by omega), q_I_ne (by omega), q_I_ne (by omega), q_I_ne (by omega), q_I_ne (by omega), q_I_ne (by omega), q_I_ne (by omega), q_I_ne (by omega), q_I_ne (by omega)]; exact c1.2 j hj
    · intro w hw
      have hw : w = 0 ∨ w = 1 ∨ w = 2 := by omega
      rcases hw with z | z | z <;> subst z
      · rw [q_I_ne (by omega), q_I_ne (by omega), q_I_ne (by omega), q_I_ne (by omega), q_I_ne (by omega), q_I_ne (by omega), q_I_eq]
      · rw [q_I_ne (by omega), q_I_ne (by omega), q_I_ne (by omega), q_I_eq]
      · rw [q_I_eq]
    · refine ⟨?_, ?_, ?_, ?_, ?_, ?_⟩
      · rw [q_I_ne (by omega), q_I_ne (by omega), q_I_ne (by omega), q_I_ne (by omega), q_I_ne (by omega), q_I_ne (by omega), q_I_ne (by omega), q_I_ne (by omega), q_I_eq]; rfl
      · rw [q_I_ne (by omega), q_I_ne (by omega), q_I_ne (by omega), q_I_ne (by omega), q_I_ne (by omega), q_I_ne (by omega), q_I_ne (by omega), q_I_eq]; rfl
      · rw [q_I_ne (by omega), q_I_ne (by omega), q_I_ne (by omega), q_I_ne (by omega), q_I_ne (by omega), q_I_eq]; rfl
      · rw [q_I_ne (by omega), q_I_ne (by omega), q_I_ne (by omega), q_I_ne (by omega), q_I_eq]; rfl
      · rw [q_I_ne (by omega), q_I_ne (by omega), q_I_eq]; rfl
      · rw [q_I_ne (by omega), q_I_eq]; rfl
  · have hs1 := f1.sh hs
    refine v_La_forget_7 ha hs1 ⟨fun c => ge_not c hk (by decide), fun _ => ⟨k, rfl, hk, ?_⟩⟩
    refine La_addStep_ok ha hs1 c1 (by rw [List.length_take]; omega) (fun σ2 f2 c2 => ⟨f2.sh hs1, rfl, ?_⟩)
    rw [nI_1]
    refine ih σ2 (f1.tr (f2.mono (fun a i z => by unfold SEa at z; unfold SLf; omega) (fun _ _ z => z))) ?_
    rw [unt_tk k hk]
    exact c2
def SFg (t : Nat) : Nat → Nat → Prop := fun a i => (a = t ∧ 13 ≤ i) ∨ (t + 7 ≤ a ∧ a ≤ t + 10) ∨ (t + 13 ≤ a ∧ a ≤ t + 17)
theorem isLa_tw (ht : q_isTw t) : q_isLa (t + 13) := by
  rcases isTw_cases ht with z | z <;> subst z
  · exact (by decide : 40 ∈ q_lLa)
  · exact (by decide : 59 ∈ q_lLa)
theorem Tw_forget_ok (hd : 2 ≤ d) (ht : q_isTw t) (hs : q_Sh σ) (hq : ∀ σ', Fr (SFg t) noL σ σ' → CTr σ' t ts0 q_unt → Q none σ') : q_Call G d 0 0 X_Tw_forget [.ref t] σ Q := by
  obtain ⟨d, rfl⟩ : ∃ d', d = d' + 1 := ⟨d - 1, by omega⟩
  have h0 := isTw_cases ht
  have ha := isLa_tw ht
  refine q_cv0 (P := fun σ' => Fr (SFg t) noL σ σ' ∧ CTr σ' t ts0 q_unt) (by decide +kernel) (Nat.le_of_ble_eq_true rfl) (fun Q hq => ?_) (fun σ' h => hq σ' h.1 h.2)
  refine v_Tw_forget_0 ht hs ?_
  have m : ∀ {σ2 : q_S} {i : Nat} {v : Int32}, 13 ≤ i → Fr (SFg t) noL σ2 (q_setI σ2 t i v) := fun h1 => Fr.setI (Or.inl ⟨rfl, h1⟩)
  have F0 : Fr (SFg t) noL σ (q_setI (q_setI (q_setI (q_setI (q_setI σ t 13 0) t 14 0) t 15 0) t 16 0) t 17 0) := ((((m (by decide)).tr (m (by decide))).tr (m (by decide))).tr (m (by decide))).tr (m (by decide))
  refine up_ind (R := fun k => ∀ σ1, Fr (SFg t) noL σ σ1 → (∀ j, j < 5 → q_I σ1 t (13 + j) = 0) → (∀ j, j < k → q_I σ1 (t + 7) j = 0 ∧ q_I σ1 (t + 8) j = 0 ∧ q_I σ1 (t + 9) j = 0 ∧ q_I σ1 (t + 10) j = 0) → q_At G X_Tw_forget (d + 1) 0 0 27 [some (.ref t), some (.int (nI k))] [] σ1 Q) (n := 36) (fun σ1 f1 c1 c2 => ?_) (fun k hk ih σ1 f1 c1 c2 => ?_) 0 (Nat.zero_le _) _ F0 (fun j hj => ?_) (fun j hj => absurd hj (Nat.not_lt_zero j))
  · have hs1 := f1.sh hs
    refine v_Tw_forget_27 ht hs1 ⟨fun _ => ?_, fun c => absurd (Int32.le_refl _) c⟩
    refine La_forget_ok (by omega) ha hs1 (fun σ2 f2 s2 w2 g2 => ⟨f2.sh hs1, rfl, hq _ ⟨f1.tr (f2.mono (fun a i z => by unfold SLf at z; unfold SFg; omega) (fun _ _ z => z)), ?_⟩⟩)
    have kI : ∀ a j, 27 ≤ a → (a < t + 13 ∨ t + 17 < a) → q_I σ2 a j = q_I σ1 a j := fun a j z1 z2 => f2.2.2.1 _ _ (fun z => by unfold SLf at z; omega)
    refine ⟨fun j j1 j2 j3 => ?_, ⟨fun q hq => absurd hq (Nat.not_lt_zero q), fun q hq => absurd hq (Nat.not_lt_zero q)⟩, fun x hx => absurd hx List.not_mem_nil, s2, fun w hw => ⟨?_, ?_⟩⟩
    · have hin := cloc_in (t := t) j1 j2
      rw [kI _ _ (by omega) (by omega)]
      show _ = nI 0
      have j3 : 44 + 4 * 0 ≤ j → 68 ≤ j := j3
      rcases cloc_cases t j1 j2 with ⟨a, e⟩ | ⟨a, b, e⟩ | ⟨a, b, e⟩ | ⟨a, b, e⟩ | ⟨a, b, e⟩ | ⟨a, e⟩
      · rw [e]; exact c1 j a
      · rw [e]; exact (c2 (j - 8) (by omega)).1
      · omega
      · rw [e]; exact (c2 (j - 68) (by omega)).2.1
      · rw [e]; exact (c2 (j - 104) (by omega)).2.2.1
      · rw [e]; exact (c2 (j - 140) (by omega)).2.2.2
    · exact w2 w hw
    · have hw : w = 0 ∨ w = 1 ∨ w = 2 := by omega
      rcases hw with z | z | z <;> subst z
      · exact ⟨0, 5, g2.1, g2.2.1, by decide, by decide, rfl, fun j hj => unt_seg.1 j hj⟩
      · exact ⟨5, 8, g2.2.2.1, g2.2.2.2.1, by decide, by decide, rfl, fun j hj => unt_seg.2.1 j hj⟩
      · exact ⟨8, 15, g2.2.2.2.2.1, g2.2.2.2.2.2, by decide, by decide, rfl, fun j hj => unt_seg.2.2 j hj⟩
  · have hs1 := f1.sh hs
    refine v_Tw_forget_27 ht hs1 ⟨fun c => ge_not c hk (by decide), fun _ => ⟨k, rfl, hk, k, rfl, hk, k, rfl, hk, k, rfl, hk, ?_⟩⟩
    have m2 : ∀ {σ2 : q_S} {u i : Nat} {v : Int32}, 7 ≤ u → u ≤ 10 → Fr (SFg t) noL σ2 (q_setI σ2 (t + u) i v) := fun h1 h2 => Fr.setI (Or.inr (Or.inl ⟨by omega, by omega⟩))
    rw [nI_1]
    refine ih _ ((((f1.tr (m2 (by decide) (by decide))).tr (m2 (by decide) (by decide))).tr (m2 (by decide) (by decide))).tr (m2 (by decide) (by decide))) (fun j hj => by rw [q_I_ne (by omega), q_I_ne (by omega), q_I_ne (by omega), q_I_ne (by omega)]; exact c1 j hj) (fun j hj => ?_)
    by_cases e : j = k
    · subst e
      refine ⟨?_, ?_, ?_, q_I_eq⟩
      · rw [q_I_ne (by omega), q_I_ne (by omega), q_I_ne (by omega), q_I_eq]
      · rw [q_I_ne (by omega), q_I_ne (by omega), q_I_eq]
      · rw [q_I_ne (by omega), q_I_eq]
    · have c := c2 j (by omega)
      refine ⟨?_, ?_, ?_, ?_⟩
      · rw [q_I_ne (by omega), q_I_ne (by omega), q_I_ne (by omega), q_I_ne (by omega)]; exact c.1
      · rw [q_I_ne (by omega), q_I_ne (by omega), q_I_ne (by omega), q_I_ne (by omega)]; exact c.2.1
      · rw [q_I_ne (by omega), q_I_ne (by omega), q_I_ne (by omega), q_I_ne (by omega)]; exact c.2.2.1
      · rw [q_I_ne (by omega), q_I_ne (by omega), q_I_ne (by omega), q_I_ne (by omega)]; exact c.2.2.2
  · have hj : j = 0 ∨ j = 1 ∨ j = 2 ∨ j = 3 ∨ j = 4 := by omega
    rcases hj with z | z | z | z | z <;> subst z
    · rw [q_I_ne (by omega), q_I_ne (by omega), q_I_ne (by omega), q_I_ne (by omega), q_I_eq]
    · rw [q_I_ne (by omega), q_I_ne (by omega), q_I_ne (by omega), q_I_eq]
    · rw [q_I_ne (by omega), q_I_ne (by omega), q_I_eq]
    · rw [q_I_ne (by omega), q_I_eq]
    · rw [q_I_eq]
-- what is heard
def S12 (t : Nat) : Nat → Nat → Prop := fun a i => Sc a i ∨ a = t + 12
def Hd (σ : q_S) (t : Nat) (D : Nat → Nat) (P : Nat → List Int32) (f e k : Nat) : Prop := ∀ f' e' k', f' < D 1 → e' < D 1 → 1 ≤ k' → k' ≤ 9 → (f' < f ∨ (f' = f ∧ (e' < e ∨ (e' = e ∧ k' < k)))) → q_I σ (t + 12) ((f' * 6 + e') * 10 + k') = nz D P f' e' k'
theorem Tw_listen_ok (hd : 3 ≤ d) (ht : q_isTw t) (hs : q_Sh σ) (hD : WfD D) (hP : WfP P) (hT : CT0 σ t D P) (hq : ∀ σ', Fr (S12 t) noL σ σ' → CT σ' t D P → Q none σ') : q_Call G d 0 0 X_Tw_listen [.ref t] σ Q := by
  obtain ⟨d, rfl⟩ : ∃ d', d = d' + 1 + 2 := ⟨d - 3, by omega⟩
  have h6 := hD.F6
  have h0 := isTw_cases ht
  refine q_cv0 (P := fun σ' => Fr (S12 t) noL σ σ' ∧ CT σ' t D P) (by decide +kernel) (Nat.le_of_ble_eq_true rfl) (fun Q hq => ?_) (fun σ' h => hq σ' h.1 h.2)
  have kT : ∀ {σ1 : q_S}, Fr (S12 t) noL σ σ1 → CT0 σ1 t D P := fun f => hT.k12 (fun a i z ne => f.2.2.1 _ _ (fun y => by
    rcases y with y | y
    · exact TC_Sc ht z y
    · exact ne y)) (fun i => f.2.2.2 _ _ (fun z => z))
  refine v_Tw_listen_0 ht hs ?_
  refine up_ind (R := fun f => ∀ σ1, Fr (S12 t) noL σ σ1 → Hd σ1 t D P f 0 0 → q_At G X_Tw_listen (d + 1 + 2) 0 0 2 [some (.ref t), some (.int (nI f)), none, none, none] [] σ1 Q) (n := D 1) (fun σ1 f1 g1 => ?_) (fun f hf ih σ1 f1 g1 => ?_) 0 (Nat.zero_le _) σ Fr.rf (fun f' e' k' _ _ _ _ z => by omega)
  · have T1 := kT f1
    refine v_Tw_listen_2 ht (f1.sh hs) ⟨fun _ => hq _ ⟨f1, T1, fun f' e' k' a1 a2 a3 a4 => g1 f' e' k' a1 a2 a3 a4 (Or.inl a1)⟩, fun c => absurd (by rw [T1.1.2.1]; exact Int32.le_refl _) c⟩
  · have T1 := kT f1
    refine v_Tw_listen_2 ht (f1.sh hs) ⟨fun c => by rw [T1.1.2.1] at c; exact ge_not c hf (by omega), fun _ => ?_⟩
    refine up_ind (R := fun e => ∀ σ1, Fr (S12 t) noL σ σ1 → Hd σ1 t D P f e 0 → q_At G X_Tw_listen (d + 1 + 2) 0 0 12 [some (.ref t), some (.int (nI f)), some (.int (nI e)), none, none] [] σ1 Q) (n := D 1) (fun σ2 f2 g2 => ?_) (fun e he ih2 σ2 f2 g2 => ?_) 0 (Nat.zero_le _) σ1 f1 g1
    · have T2 := kT f2
      refine v_Tw_listen_12 ht (f2.sh hs) ⟨fun _ => ?_, fun c => absurd (by rw [T2.1.2.1]; exact Int32.le_refl _) c⟩
      rw [nI_1]
      exact ih σ2 f2 (fun f' e' k' a1 a2 a3 a4 z => g2 f' e' k' a1 a2 a3 a4 (by omega))
    · have T2 := kT f2
      refine v_Tw_listen_12 ht (f2.sh hs) ⟨fun c => by rw [T2.1.2.1] at c; exact ge_not c he (by omega), fun _ => ?_⟩
      refine up_ind (R := fun k => 1 ≤ k → ∀ σ1, Fr (S12 t) noL σ σ1 → Hd σ1 t D P f e k → q_At G X_Tw_listen (d + 1 + 2) 0 0 22 [some (.ref t), some (.int (nI f)), some (.int (nI e)), some (.int (nI k)), none] [] σ1 Q) (n := 10) (fun _ σ3 f3 g3 => ?_) (fun k hk ih3 h1 σ3 f3 g3 => ?_) 1 (by decide) (Nat.le_refl _) σ2 f2 (fun f' e' k' a1 a2 a3 a4 z => g2 f' e' k' a1 a2 a3 a4 (by omega))
      · refine v_Tw_listen_22 ht (f3.sh hs) ⟨fun _ => ?_, fun c => absurd (by decide) c⟩
        rw [nI_1]
        exact ih2 σ3 f3 (fun f' e' k' a1 a2 a3 a4 z => g3 f' e' k' a1 a2 a3 a4 (by omega))
      · have T3 := kT f3
        have hs3 := f3.sh hs
        refine v_Tw_listen_22 ht hs3 ⟨fun c => absurd c (nI_nlt (a := 9) (b := k) (by omega) (by decide)), fun _ => ?_⟩
        refine Tw_loud_ok (d := d + 1) ht hs3 hD T3 he ⟨hs3, _, rfl, Tw_hear_ok (d := d + 1) ht hs3 hD T3 hf ⟨hs3, _, rfl, ?_⟩⟩
        refine Tw_value_ok (w := 0) (d := d) ht hs3 hP T3 (by decide) (by omega) (fun σ4 f4 => ⟨f4.sh hs3, _, rfl, ?_⟩)
        have F4 : Fr (S12 t) noL σ σ4 := f3.tr (f4.mono (fun a i z => Or.inl z) (fun _ _ z => z))
        have hs4 := F4.sh hs
        refine Tw_place_ok (d := d + 1) hs4 ⟨hs4, _, rfl, W_within_ok (d := d + 1) hs4 (by decide) ⟨hs4, _, rfl, (f * 6 + e) * 10 + k, rfl, by omega, ?_⟩⟩
        rw [nI_1]
        refine ih3 (by omega) _ (F4.tr (Fr.setI (Or.inr rfl))) (fun f' e' k' a1 a2 a3 a4 z => ?_)
        by_cases eq : f' = f ∧ e' = e ∧ k' = k
        · obtain ⟨q1, q2, q3⟩ := eq
          subst q1 q2 q3
          rw [q_I_eq]
          rfl
        · rw [q_I_ne (by omega), f4.2.2.1 _ _ (fun z => by unfold Sc at z; omega)]
          exact g3 f' e' k' a1 a2 a3 a4 (by omega)
end CTOWN
