-- the reference's joy, content, hedges, noises
def dv (w : Nat) (a b c : Int32) : Int32 := match w with
  | 0 => a + b - c
  | 1 => a - b
  | _ => b * 2 - a + c
theorem vl_dflt {P : Nat → List Int32} {w : Nat} {a b c : Int32} (hw : w < 3) (h : P w = dflt w) : vl P w a b c = dv w a b c := by
  rw [vl, h]
  match w, hw with
  | 0, _ => rfl
  | 1, _ => rfl
  | 2, _ => rfl
def ncont (D hm : Nat → Nat) (P : Nat → List Int32) : Nat → Int32 := bx_sum (fun f => if 0 ≤ joyv D hm P f then 1 else 0)
/-- a contract that answers an int, comes to a state of a kind -/
theorem q_cii {G : q_G} {d : Nat} {Y : q_M} {vs : List Value} {σ : q_S} {Pp : Int32 → q_S → Prop} (hp : plainName (m_y Y).cls = true) (hn : (q_vin vs).length ≤ m_m Y) (h : ∀ Q : Option Value → q_S → Prop, (∀ v σ', Pp v σ' → Q (some (.int v)) σ') → q_At G Y d 0 0 0 (q_init vs (m_m Y)) [] σ Q) {Q : Option Value → q_S → Prop} (hq : ∀ v σ', Pp v σ' → Q (some (.int v)) σ') : q_Call G d 0 0 Y vs σ Q := q_enter hp hn (h _ (fun v σ' hP => ⟨q_no_i, hq v σ' hP⟩))
section MOD4
variable {G : q_G} {d : Nat} {σ : q_S} {Q : Option Value → q_S → Prop} {D hm : Nat → Nat} {P : Nat → List Int32} {b f e : Nat}
theorem M_lawv {w : Nat} {a b c : Int32} {K : Int32 → q_S → Prop} (hs : q_Sh σ) (hT : MT0 σ D P) (hP : WfP P) (hw : w < 3) (hF : F3 σ w a b c) (hq : ∀ σ', Fr Sp noL σ σ' → K (vl P w a b c) σ') : (0 ≤ q_I σ 165 (5 + w) → q_Call G (d + 1) 0 0 X_M_worthAt [.ref 159, .int (q_I σ 165 (5 + w))] σ (q_ri K)) ∧ (¬ 0 ≤ q_I σ 165 (5 + w) → K (dv w a b c) σ) := by
  rcases hT.2 w hw with ⟨h1, h2⟩ | ⟨s, h1, h2⟩
  · rw [h1]
    refine ⟨fun c => absurd c (by decide), fun _ => ?_⟩
    have := hq σ Fr.rf
    rwa [vl_dflt hw h2] at this
  · have hl := h2.2.2
    rw [h1]
    refine ⟨fun _ => M_worth_ok hs h2 hF (hP w hw) (fun σ' hf => ⟨hf.sh hs, _, rfl, hq σ' hf⟩), fun c => absurd (nI_le (a := 0) (Nat.zero_le _) (by omega)) c⟩
theorem M_joy_ok (hs : q_Sh σ) (hD : WfD D) (hP : WfP P) (hT : MT σ D P) (hB : HB σ b D hm) (hb : b + 6 ≤ 1886) (hf : f < D 1) (hq : ∀ σ', Fr Sm noL σ σ' → Q (some (.int (joyv D hm P f))) σ') : q_Call G (d + 2) 0 0 X_M_joyBy [.ref 159, .int (nI b), .int (nI f)] σ Q := by
  have h6 := hD.F6
  refine q_cii (Pp := fun v σ' => v = joyv D hm P f ∧ Fr Sm noL σ σ') (by decide +kernel) (Nat.le_of_ble_eq_true rfl) (fun Q hq => ?_) (fun v σ' h => by rw [h.1]; exact hq σ' h.2)
  refine v_M_joyBy_0 hs ?_
  have loop := up_ind (R := fun k => ∀ σ1, Fr Sm noL σ σ1 → q_I σ1 173 3 = jfond D hm f k → q_I σ1 173 5 = jnear D hm f k → q_At G X_M_joyBy (d + 2) 0 0 16 [some (.ref 159), some (.int (nI b)), some (.int (nI f)), some (.int (nI k)), none] [] σ1 Q) (n := D 1) (fun σ1 fr h3 h5 => ?_) (fun k hk ih σ1 fr h3 h5 => ?_)
  · refine loop 0 (Nat.zero_le _) _ (Fr.tr (Fr.setI (Or.inl rfl)) (Fr.setI (Or.inl rfl))) ?_ ?_
    · rw [q_I_ne (by omega), q_I_eq]; rfl
    · rw [q_I_eq]; rfl
  · have hs1 := fr.sh hs
    have hT1 := hT.sm fr
    have hB1 := hB.sm fr
    refine v_M_joyBy_16 hs1 ⟨fun _ => ?_, fun c => absurd (by rw [hT1.1.F]; exact Int32.le_refl _) c⟩
    refine M_felt_ok hs1 hD hT1 hB1 hb hf ⟨hs1, _, rfl, ?_⟩
    have fr2 : Fr Sm noL σ (q_setI σ1 173 4 (felt D hm P f)) := fr.tr (Fr.setI (Or.inl rfl))
    have e3 : q_I (q_setI σ1 173 4 (felt D hm P f)) 173 3 = jfond D hm f (D 1) := by rw [q_I_ne (by omega), h3]
    have e4 : q_I (q_setI σ1 173 4 (felt D hm P f)) 173 4 = felt D hm P f := q_I_eq
    have e5 : q_I (q_setI σ1 173 4 (felt D hm P f)) 173 5 = jnear D hm f (D 1) := by rw [q_I_ne (by omega), h5]
    have := M_lawv (G := G) (d := d) (w := 1) (K := fun x σ' => Q (some (.int (if (-999) ≤ x then (if x ≤ 999 then x else (999 : Int32)) else ((-999) : Int32)))) σ') (fr2.sh hs) (hT.sm fr2).1 hP (by decide) ⟨e3, e4, e5⟩ (fun σ' f3 => by
      rw [clmp_of (by decide)]
      exact hq _ _ ⟨rfl, fr2.tr (Sp.sm f3)⟩)
    refine ⟨this.1, fun c => ?_⟩
    have h2 := this.2 c
    rw [e3, e4]
    exact h2
  · have hs1 := fr.sh hs
    have hT1 := hT.sm fr
    have hB1 := hB.sm fr
    refine v_M_joyBy_16 hs1 ⟨fun c => by rw [hT1.1.F] at c; exact ge_not c hk (by omega), fun _ => ⟨fun c => ?_, fun c => ?_⟩⟩
    · have e0 : k = f := by rwa [nI_eq (by omega) (by omega)] at c
      have z : thk D hm f k = 0 := by rw [e0]; exact thk_self hD (hB f hf).2
      rw [nI_1]
      refine ih _ (fr.tr (Fr.tr (Fr.setI (Or.inl rfl)) (Fr.setI (Or.inl rfl)))) ?_ ?_
      · rw [q_I_ne (by omega), q_I_eq, h3]
        show _ = bx_sum _ (k + 1)
        rw [bx_sum, if_pos z]
        rfl
      · rw [q_I_eq, q_I_ne (by omega), h5]
        show _ = bx_sum _ (k + 1)
        rw [bx_sum, if_pos z]
        rfl
    · have h9 := thk_le (f := f) (e := k) hD (hB f hf).2 (hB k hk).2
      refine M_wallBy_ok hs1 hD hT1.1 hB1 hb hf hk ⟨hs1, _, rfl, fun c2 => ?_, fun c2 => ?_⟩
      · have c3 := c2
        rw [if01, le0_iff (by omega)] at c2
        rw [nI_1, if_pos c3]
        refine ih _ (fr.tr (Fr.tr (Fr.setI (Or.inl rfl)) (Fr.setI (Or.inl rfl)))) ?_ ?_
        · rw [q_I_ne (by omega), q_I_eq, h3]
          show _ = bx_sum _ (k + 1)
          rw [bx_sum, if_pos c2]
          rfl
        · rw [q_I_eq, q_I_ne (by omega), h5]
          show _ = bx_sum _ (k + 1)
          rw [bx_sum, if_pos c2]
          rfl
      · have c3 := c2
        rw [if01, le0_iff (by omega)] at c2
        refine M_likes_ok hs1 hD hT1.1 hf hk ⟨hs1, _, rfl, ?_⟩
        rw [nI_1, if_neg c3]
        refine ih _ (fr.tr (Fr.tr (Fr.setI (Or.inl rfl)) (Fr.setI (Or.inl rfl)))) ?_ ?_
        · rw [q_I_ne (by omega), q_I_eq, h3]
          show _ = bx_sum _ (k + 1)
          rw [bx_sum, if_neg c2]
          rfl
        · rw [q_I_eq, q_I_ne (by omega), h5]
          show _ = bx_sum _ (k + 1)
          rw [bx_sum, if_neg c2]
          rfl
end MOD4
