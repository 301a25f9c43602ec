theorem up_ind {R : Nat → Prop} {n : Nat} (hn : R n) (hs : ∀ k, k < n → R (k + 1) → R k) : ∀ k, k ≤ n → R k := by
  have : ∀ m k, k + m = n → R k := by
    intro m
    induction m with
    | zero => intro k hk; have : k = n := by omega
              subst this; exact hn
    | succ m ih => intro k hk; exact hs k (by omega) (ih (k + 1) (by omega))
  exact fun k hk => this (n - k) k (by omega)
theorem ge_not {a b : Nat} {P : Prop} (c : nI b ≤ nI a) (h : a < b) (hb : b < 2 ^ 31) : P := absurd c (nI_ge h hb)
-- scratch of the laws of both towns
def Sc : Nat → Nat → Prop := fun a i => ((a = 40 ∨ a = 59) ∧ i = 6) ∨ a = 45 ∨ a = 64
def TC (t : Nat) : Nat → Nat → Prop := fun a i => (a = t ∧ 13 ≤ i) ∨ (t + 3 ≤ a ∧ a ≤ t + 12) ∨ (t + 14 ≤ a ∧ a ≤ t + 16)
theorem isTw_cases {t : Nat} (h : q_isTw t) : t = 27 ∨ t = 46 := by
  have h : t ∈ [27, 46] := h
  simpa using h
theorem Sc_of {t a i : Nat} (h : q_isTw t) (hs : ScL (t + 13) a i) : Sc a i := by
  rcases isTw_cases h with rfl | rfl <;> rcases hs with ⟨rfl, rfl⟩ | rfl <;> simp [Sc]
theorem TC_Sc {t a i : Nat} (h : q_isTw t) (hs : TC t a i) : ¬ Sc a i := by
  intro hc
  rcases isTw_cases h with rfl | rfl <;> rcases hc with ⟨rfl | rfl, rfl⟩ | rfl | rfl <;> rcases hs with ⟨h1, h2⟩ | ⟨h1, h2⟩ | ⟨h1, h2⟩ <;> omega
theorem CT0.keep {σ σ' : q_S} {t : Nat} {D : Nat → Nat} {P : Nat → List Int32} (h : CT0 σ t D P) (hI : ∀ a i, TC t a i → q_I σ' a i = q_I σ a i) (hL : ∀ i, q_L σ' (t + 11) i = q_L σ (t + 11) i) : CT0 σ' t D P := by
  obtain ⟨⟨a1, a2, a3, a4, a5⟩, h2, h3, h4, h5, h6, h7⟩ := h
  have z : ∀ i, 13 ≤ i → q_I σ' t i = q_I σ t i := fun i hi => hI t i (Or.inl ⟨rfl, hi⟩)
  have y : ∀ k i, 3 ≤ k → k ≤ 12 → q_I σ' (t + k) i = q_I σ (t + k) i := fun k i g1 g2 => hI (t + k) i (Or.inr (Or.inl ⟨by omega, by omega⟩))
  have x : ∀ k i, 14 ≤ k → k ≤ 16 → q_I σ' (t + k) i = q_I σ (t + k) i := fun k i g1 g2 => hI (t + k) i (Or.inr (Or.inr ⟨by omega, by omega⟩))
  refine ⟨⟨by rw [z 13 (by decide), a1], by rw [z 14 (by decide), a2], by rw [z 15 (by decide), a3], by rw [z 16 (by decide), a4], by rw [z 17 (by decide), a5]⟩, fun i hi => by rw [y 7 i (by decide) (by decide), h2 i hi], fun f hf => ?_, fun i hi => ?_, fun k hk => by rw [hL, h5 k hk], fun k hk => by rw [hL, h6 k hk], fun w hw h0 => ?_⟩
  · obtain ⟨g1, g2, g3, g4⟩ := h3 f hf
    exact ⟨by rw [y 3 f (by decide) (by decide), g1], by rw [y 4 f (by decide) (by decide), g2], by rw [y 5 f (by decide) (by decide), g3], by rw [y 6 f (by decide) (by decide), g4]⟩
  · obtain ⟨g1, g2, g3⟩ := h4 i hi
    exact ⟨by rw [y 8 i (by decide) (by decide), g1], by rw [y 9 i (by decide) (by decide), g2], by rw [y 10 i (by decide) (by decide), g3]⟩
  · obtain ⟨lo, hi, g1, g2, g3, g4, g5, g6⟩ := h7 w hw h0
    exact ⟨lo, hi, by rw [x 15 w (by decide) (by decide), g1], by rw [x 16 w (by decide) (by decide), g2], g3, g4, g5, fun i hi => by rw [x 14 _ (by decide) (by decide), g6 i hi]⟩
theorem CT.keep {σ σ' : q_S} {t : Nat} {D : Nat → Nat} {P : Nat → List Int32} (h : CT σ t D P) (hI : ∀ a i, TC t a i → q_I σ' a i = q_I σ a i) (hL : ∀ i, q_L σ' (t + 11) i = q_L σ (t + 11) i) : CT σ' t D P :=
  ⟨h.1.keep hI hL, fun f e k h1 h2 h3 h4 => by rw [hI (t + 12) _ (Or.inr (Or.inl ⟨by omega, by omega⟩)), h.2 f e k h1 h2 h3 h4]⟩
theorem CT.sc {σ σ' : q_S} {t : Nat} {D : Nat → Nat} {P : Nat → List Int32} (ht : q_isTw t) (h : CT σ t D P) (hf : Fr Sc noL σ σ') : CT σ' t D P := h.keep (fun a i hc => hf.2.2.1 a i (TC_Sc ht hc)) (fun i => hf.2.2.2 _ i (fun z => z))
theorem CT0.sc {σ σ' : q_S} {t : Nat} {D : Nat → Nat} {P : Nat → List Int32} (ht : q_isTw t) (h : CT0 σ t D P) (hf : Fr Sc noL σ σ') : CT0 σ' t D P := h.keep (fun a i hc => hf.2.2.1 a i (TC_Sc ht hc)) (fun i => hf.2.2.2 _ i (fun z => z))
theorem HM.sc {σ σ' : q_S} {h : Nat} {D hm : Nat → Nat} (hp : q_kd h = (1, 6)) (hh : HM σ h D hm) (hf : Fr Sc noL σ σ') : HM σ' h D hm := by
  intro f hlt
  refine ⟨?_, (hh f hlt).2⟩
  rw [hf.2.2.1 h f, (hh f hlt).1]
  rintro (⟨rfl | rfl, -⟩ | rfl | rfl) <;> exact absurd hp (by decide)
section TOWN2
variable {G : q_G} {d : Nat} {σ : q_S} {Q : Option Value → q_S → Prop} {t h : Nat} {D hm : Nat → Nat} {P : Nat → List Int32}
theorem Tw_value_ok {w : Nat} {a b c : Int32} (ht : q_isTw t) (hs : q_Sh σ) (hP : WfP P) (hT : CT0 σ t D P) (hw : w < 3) (h0 : 0 < D 1) (hq : ∀ σ', Fr Sc noL σ σ' → Q (some (.int (vl P w a b c))) σ') : q_Call G (d + 2) 0 0 X_La_valueOf [.ref (t + 13), .int (nI w), .int a, .int b, .int c] σ Q := by
  obtain ⟨lo, hi, g1, g2, g3, g4, g5, g6⟩ := hT.2.2.2.2.2.2 w hw h0
  exact La_value_ok (isLa_of_Tw ht) hs hw (hP w hw) g1 g2 g3 g4 g5 g6 (fun σ' hf => hq σ' (hf.mono (fun a i z => Sc_of ht z) (fun _ _ z => z)))
theorem Tw_joy_ok {f : Nat} (ht : q_isTw t) (hp : q_kd h = (1, 6)) (hs : q_Sh σ) (hD : WfD D) (hP : WfP P) (hT : CT σ t D P) (hh : HM σ h D hm) (hf : f < D 1) (hq : ∀ σ', Fr Sc noL σ σ' → Q (some (.int (joyv D hm P f))) σ') : q_Call G (d + 3) 0 0 X_Tw_joyOf [.ref t, .ref h, .int (nI f)] σ Q := by
  have h6 := hD.F6
  refine q_enter (by decide +kernel) (Nat.le_of_ble_eq_true rfl) ?_
  refine v_Tw_joyOf_0 ht hp hs ?_
  refine up_ind (R := fun k => q_At G X_Tw_joyOf (d + 3) 0 0 8 [some (.ref t), some (.ref h), some (.int (nI f)), some (.int (jfond D hm f k)), some (.int (jnear D hm f k)), some (.int (nI k))] [] σ _) (n := D 1) ?_ (fun k hk ih => ?_) 0 (Nat.zero_le _)
  · refine v_Tw_joyOf_8 ht hs ⟨fun _ => ?_, fun c => absurd (by rw [hT.1.1.2.1]; exact Int32.le_refl _) c⟩
    refine Tw_felt_ok ht hp hs hD hT hh hf ⟨hs, _, rfl, ?_⟩
    refine Tw_value_ok (w := 1) ht hs hP hT.1 (by decide) (by omega) (fun σ' hfr => ⟨hfr.sh hs, _, rfl, ?_⟩)
    exact W_within_ok (hfr.sh hs) (by decide) ⟨hfr.sh hs, _, rfl, q_no_i, hq σ' hfr⟩
  · refine v_Tw_joyOf_8 ht hs ⟨fun c => by rw [hT.1.1.2.1] at c; exact ge_not c hk (by omega), fun _ => ?_⟩
    rw [jfond, jnear, bx_sum, bx_sum, ← nI_1] at ih
    refine Tw_near_ok ht hp hs hD hT.1 hh hf hk ⟨hs, _, rfl, fun c => ?_, fun c => ?_⟩
    · have c2 : thk D hm f k = 0 := by
        rcases Nat.eq_zero_or_pos (thk D hm f k) with z | z
        · exact z
        · rw [if_neg (by omega)] at c; exact absurd c (by decide)
      rw [if_pos c2, if_pos c2, Int32.add_zero, Int32.add_zero] at ih
      exact ih
    · have c2 : ¬ thk D hm f k = 0 := fun z => by rw [if_pos z] at c; exact c rfl
      rw [if_neg c2, if_neg c2] at ih
      exact Tw_fond_ok ht hs hD hT.1 hf hk ⟨hs, _, rfl, ih⟩
theorem if01 {p : Prop} [Decidable p] : ((if p then (0 : Int32) else 1) = 0) ↔ p := by
  by_cases h : p
  · simp [h]
  · simp [h]
theorem if10 {p : Prop} [Decidable p] : ((if p then (1 : Int32) else 0) = 0) ↔ ¬ p := by
  by_cases h : p
  · simp [h]
  · simp [h]
theorem or0 (x : Int32) : x ||| 0 = x := by
  apply Int32.toBitVec_inj.mp
  simp
theorem or0L (x : Int64) : x ||| 0 = x := by
  apply Int64.toBitVec_inj.mp
  simp
theorem Tw_nbits_ok {f : Nat} (ht : q_isTw t) (hp : q_kd h = (1, 6)) (hs : q_Sh σ) (hD : WfD D) (hT : CT0 σ t D P) (hh : HM σ h D hm) (hf : f < D 1) (hq : Q (some (.int (nbits D hm f))) σ) : q_Call G (d + 3) 0 0 X_Tw_neighbourBits [.ref t, .ref h, .int (nI f)] σ Q := by
  have h6 := hD.F6
  refine q_ci (by decide +kernel) (Nat.le_of_ble_eq_true rfl) (fun Q hq => ?_) hq
  refine v_Tw_neighbourBits_0 ht hp hs ?_
  refine up_ind (R := fun k => q_At G X_Tw_neighbourBits (d + 3) 0 0 5 [some (.ref t), some (.ref h), some (.int (nI f)), some (.int (bx_or (fun e => if thk D hm f e = 0 then 0 else (1 : Int32) <<< (nI e &&& 31)) k)), some (.int (nI k))] [] σ Q) (n := D 1) ?_ (fun k hk ih => ?_) 0 (Nat.zero_le _)
  · exact v_Tw_neighbourBits_5 ht hs ⟨fun _ => hq, fun c => absurd (by rw [hT.1.2.1]; exact Int32.le_refl _) c⟩
  · refine v_Tw_neighbourBits_5 ht hs ⟨fun c => by rw [hT.1.2.1] at c; exact ge_not c hk (by omega), fun _ => ?_⟩
    rw [bx_or, ← nI_1] at ih
    refine Tw_near_ok ht hp hs hD hT hh hf hk ⟨hs, _, rfl, fun c => ?_, fun c => ?_⟩
    · rw [if01] at c
      rw [if_pos c, or0] at ih
      exact ih
    · rw [if01] at c
      rw [if_neg c] at ih
      exact ih
theorem Tw_content_ok (ht : q_isTw t) (hp : q_kd h = (1, 6)) (hs : q_Sh σ) (hD : WfD D) (hP : WfP P) (hT : CT σ t D P) (hh : HM σ h D hm) (hq : ∀ σ', Fr Sc noL σ σ' → Q (some (.int (cont D hm P))) σ') : q_Call G (d + 4) 0 0 X_Tw_contentBits [.ref t, .ref h] σ Q := by
  have h6 := hD.F6
  refine q_enter (by decide +kernel) (Nat.le_of_ble_eq_true rfl) ?_
  refine v_Tw_contentBits_0 ht hp hs ?_
  refine up_ind (R := fun k => ∀ σ1, Fr Sc noL σ σ1 → q_At G X_Tw_contentBits (d + 4) 0 0 4 [some (.ref t), some (.ref h), some (.int (bx_or (fun f => if 0 ≤ joyv D hm P f then (1 : Int32) <<< (nI f &&& 31) else 0) k)), some (.int (nI k))] [] σ1 _) (n := D 1) (fun σ1 hf => ?_) (fun k hk ih σ1 hf => ?_) 0 (Nat.zero_le _) σ Fr.rf
  · have hT1 := hT.sc ht hf
    exact v_Tw_contentBits_4 ht (hf.sh hs) ⟨fun _ => ⟨q_no_i, hq σ1 hf⟩, fun c => absurd (by rw [hT1.1.1.2.1]; exact Int32.le_refl _) c⟩
  · have hT1 := hT.sc ht hf
    have hs1 := hf.sh hs
    refine v_Tw_contentBits_4 ht hs1 ⟨fun c => by rw [hT1.1.1.2.1] at c; exact ge_not c hk (by omega), fun _ => ?_⟩
    refine Tw_joy_ok ht hp hs1 hD hP hT1 (hh.sc hp hf) hk (fun σ2 hf2 => ⟨hf2.sh hs1, _, rfl, fun c => ?_, fun c => ?_⟩)
    · have ih2 := ih σ2 (hf.tr hf2)
      rw [bx_or, ← nI_1, if_neg (Int32.not_le.mpr c), or0] at ih2
      exact ih2
    · have ih2 := ih σ2 (hf.tr hf2)
      rw [bx_or, ← nI_1, if_pos (Int32.not_lt.mp c)] at ih2
      exact ih2
theorem Tw_hedge_ok {f e : Nat} {x y : Int32} (ht : q_isTw t) (hs : q_Sh σ) (hD : WfD D) (hP : WfP P) (hT : CT σ t D P) (hf : f < D 1) (he : e < D 1) (hq : ∀ σ', Fr Sc noL σ σ' → Q (some (.int (hedg D P f e x y))) σ') : q_Call G (d + 3) 0 0 X_Tw_hedge [.ref t, .int (nI f), .int (nI e), .int x, .int y] σ Q := by
  refine q_enter (by decide +kernel) (Nat.le_of_ble_eq_true rfl) ?_
  refine v_Tw_hedge_0 ht hs ?_
  refine Tw_fond_ok ht hs hD hT.1 hf he ⟨hs, _, rfl, ?_⟩
  refine Tw_value_ok (w := 2) ht hs hP hT.1 (by decide) (by omega) (fun σ' hfr => ⟨hfr.sh hs, _, rfl, ?_⟩)
  exact W_within_ok (hfr.sh hs) (by decide) ⟨hfr.sh hs, _, rfl, q_no_i, hq σ' hfr⟩
end TOWN2
