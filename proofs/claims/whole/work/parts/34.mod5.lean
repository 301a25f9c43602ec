theorem ge0_lt {x : Int32} : (if x < 0 then (0 : Int32) else 1) = if 0 ≤ x then 1 else 0 := by
  by_cases c : x < 0
  · rw [if_pos c, if_neg (fun h => Int32.lt_irrefl (Int32.lt_of_lt_of_le c h))]
  · rw [if_neg c, if_pos (Int32.not_lt.mp c)]
section MOD5
variable {G : q_G} {d : Nat} {σ : q_S} {Q : Option Value → q_S → Prop} {D hm : Nat → Nat} {P : Nat → List Int32} {b f e : Nat}
theorem M_content_ok (hs : q_Sh σ) (hD : WfD D) (hP : WfP P) (hT : MT σ D P) (hB : HB σ b D hm) (hb : b + 6 ≤ 1886) (hq : ∀ σ', Fr Sm noL σ σ' → Q (some (.int (ncont D hm P (D 1)))) σ') : q_Call G (d + 3) 0 0 X_M_contentBy [.ref 159, .int (nI b)] σ Q := by
  have h6 := hD.F6
  refine q_cii (Pp := fun v σ' => v = ncont D hm P (D 1) ∧ Fr Sm noL σ σ') (by decide +kernel) (Nat.le_of_ble_eq_true rfl) (fun Q hq => ?_) (fun v σ' h => by rw [h.1]; exact hq σ' h.2)
  refine v_M_contentBy_0 hs ?_
  refine up_ind (R := fun k => ∀ σ1, Fr Sm noL σ σ1 → q_At G X_M_contentBy (d + 3) 0 0 4 [some (.ref 159), some (.int (nI b)), some (.int (ncont D hm P k)), some (.int (nI k))] [] σ1 Q) (n := D 1) (fun σ1 fr => ?_) (fun k hk ih σ1 fr => ?_) 0 (Nat.zero_le _) σ Fr.rf
  · exact v_M_contentBy_4 (fr.sh hs) ⟨fun _ => hq _ _ ⟨rfl, fr⟩, fun c => absurd (by rw [(hT.sm fr).1.F]; exact Int32.le_refl _) c⟩
  · refine v_M_contentBy_4 (fr.sh hs) ⟨fun c => by rw [(hT.sm fr).1.F] at c; exact ge_not c hk (by omega), fun _ => ?_⟩
    refine M_joy_ok (fr.sh hs) hD hP (hT.sm fr) (hB.sm fr) hb hk (fun σ2 f2 => ⟨f2.sh (fr.sh hs), _, rfl, ?_⟩)
    simp only [nI_1, ge0_lt]
    exact ih σ2 (fr.tr f2)
theorem M_near_ok (hs : q_Sh σ) (hD : WfD D) (hT : MT0 σ D P) (hB : HB σ 0 D hm) (hf : f < D 1) (hq : Q (some (.int (nbits D hm f))) σ) : q_Call G (d + 1) 0 0 X_M_nearOf [.ref 159, .int (nI f)] σ Q := by
  have h6 := hD.F6
  refine q_ci (by decide +kernel) (Nat.le_of_ble_eq_true rfl) (fun Q hq => ?_) hq
  refine v_M_nearOf_0 hs ?_
  refine up_ind (R := fun k => q_At G X_M_nearOf (d + 1) 0 0 4 [some (.ref 159), some (.int (nI f)), some (.int (bx_or (fun e => if thk D hm f e = 0 then 0 else (1 : Int32) <<< (nI e &&& 31)) k)), some (.int (nI k))] [] σ Q) (n := D 1) ?_ (fun k hk ih => ?_) 0 (Nat.zero_le _)
  · exact v_M_nearOf_4 hs ⟨fun _ => hq, fun c => absurd (by rw [hT.F]; exact Int32.le_refl _) c⟩
  · rw [bx_or, ← nI_1] at ih
    refine v_M_nearOf_4 hs ⟨fun c => by rw [hT.F] at c; exact ge_not c hk (by omega), fun _ => ⟨fun c => ?_, fun c => ?_⟩⟩
    · have e0 : k = f := by rwa [nI_eq (by omega) (by omega)] at c
      have z : thk D hm f k = 0 := by rw [e0]; exact thk_self hD (hB f hf).2
      rw [if_pos z] at ih
      exact ih
    · have h9 := thk_le (f := f) (e := k) hD (hB f hf).2 (hB k hk).2
      refine M_wallBy_ok (b := 0) hs hD hT hB (by decide) hf hk ⟨hs, _, rfl, ?_⟩
      simp only [le0_iff (show thk D hm f k < 2 ^ 31 by omega)]
      exact ih
theorem M_gets_ok {x y : Int32} (hs : q_Sh σ) (hD : WfD D) (hP : WfP P) (hT : MT σ D P) (hf : f < D 1) (he : e < D 1) (hq : ∀ σ', Fr Sm noL σ σ' → Q (some (.int (hedg D P f e x y))) σ') : q_Call G (d + 2) 0 0 X_M_getsBy [.ref 159, .int (nI f), .int (nI e), .int x, .int y] σ Q := by
  refine q_cii (Pp := fun v σ' => v = hedg D P f e x y ∧ Fr Sm noL σ σ') (by decide +kernel) (Nat.le_of_ble_eq_true rfl) (fun Q hq => ?_) (fun v σ' h => by rw [h.1]; exact hq σ' h.2)
  refine v_M_getsBy_0 hs (M_likes_ok hs hD hT.1 hf he ⟨hs, _, rfl, ?_⟩)
  have fr2 : Fr Sm noL σ (q_setI (q_setI (q_setI σ 173 3 (fond D f e)) 173 6 x) 173 7 y) := Fr.tr (Fr.tr (Fr.setI (Or.inl rfl)) (Fr.setI (Or.inl rfl))) (Fr.setI (Or.inl rfl))
  have e3 : q_I (q_setI (q_setI (q_setI σ 173 3 (fond D f e)) 173 6 x) 173 7 y) 173 3 = fond D f e := by rw [q_I_ne (by omega), q_I_ne (by omega), q_I_eq]
  have e6 : q_I (q_setI (q_setI (q_setI σ 173 3 (fond D f e)) 173 6 x) 173 7 y) 173 6 = x := by rw [q_I_ne (by omega), q_I_eq]
  have e7 : q_I (q_setI (q_setI (q_setI σ 173 3 (fond D f e)) 173 6 x) 173 7 y) 173 7 = y := q_I_eq
  have := M_lawv (G := G) (d := d) (w := 2) (K := fun x σ' => Q (some (.int (if (-99) ≤ x then (if x ≤ 99 then x else (99 : Int32)) else ((-99) : Int32)))) σ') (fr2.sh hs) (hT.sm fr2).1 hP (by decide) ⟨e6, e7, e3⟩ (fun σ' f3 => by
      rw [clmp_of (by decide)]
      exact hq _ _ ⟨rfl, fr2.tr (Sp.sm f3)⟩)
  refine ⟨this.1, fun c => ?_⟩
  have h2 := this.2 c
  rw [e3]
  exact h2
def Sn : Nat → Nat → Prop := fun a _ => a = 173 ∨ a = 174 ∨ a = 177
theorem k_div {k m : Nat} (hk : k < 360) (hm : 0 < m) (hm2 : m < 361) : nI k / nI m = nI (k / m) := pk_div (by omega) (by omega) (by omega)
theorem M_noises_ok (hs : q_Sh σ) (hD : WfD D) (hP : WfP P) (hT : MT0 σ D P) (hq : ∀ σ', Fr Sn noL σ σ' → MT σ' D P → Q none σ') : q_Call G (d + 2) 0 0 X_M_laysNoises [.ref 159] σ Q := by
  have h6 := hD.F6
  refine q_cv0 (P := fun σ' => Fr Sn noL σ σ' ∧ MT σ' D P) (by decide +kernel) (Nat.le_of_ble_eq_true rfl) (fun Q hq => ?_) (fun σ' h => hq σ' h.1 h.2)
  have hk0 : ∀ σ1, Fr Sn noL σ σ1 → MT0 σ1 D P := fun σ1 fr => hT.keep (fun i _ => fr.2.2.1 _ _ (by simp [Sn])) (fun i => fr.2.2.1 _ _ (by simp [Sn])) (fun i => fr.2.2.1 _ _ (by simp [Sn]))
  refine v_M_laysNoises_0 hs ?_
  refine up_ind (R := fun k => ∀ σ1, Fr Sn noL σ σ1 → (∀ f e t, f < D 1 → e < D 1 → t ≤ 9 → 60 * f + 10 * e + t < k → q_I σ1 177 (60 * f + 10 * e + t) = nz D P f e t) → q_At G X_M_laysNoises (d + 2) 0 0 2 [some (.ref 159), some (.int (nI k)), none, none, none] [] σ1 Q) (n := 360) (fun σ1 fr h1 => ?_) (fun k hk ih σ1 fr h1 => ?_) 0 (Nat.zero_le _) σ Fr.rf (fun f e t _ _ _ h => absurd h (Nat.not_lt_zero _))
  · exact v_M_laysNoises_2 (fr.sh hs) ⟨fun _ => hq σ1 ⟨fr, hk0 σ1 fr, fun f e t a1 a2 a3 => h1 f e t a1 a2 a3 (by omega)⟩, fun c => absurd (by decide) c⟩
  · have hs1 := fr.sh hs
    have hT1 := hk0 σ1 fr
    have d1 : nI k / 60 = nI (k / 60) := k_div hk (by decide) (by decide)
    have d2 : nI k / 10 = nI (k / 10) := k_div hk (by decide) (by decide)
    have d3 : (nI k / 10) - (nI k / 10) / 6 * 6 = nI (k / 10 % 6) := by rw [d2]; exact pk_rem (by omega) (by decide) (by decide)
    have d4 : nI k - nI k / 10 * 10 = nI (k % 10) := pk_rem (by omega) (by decide) (by decide)
    have d5 : 60 * (k / 60) + 10 * (k / 10 % 6) + k % 10 = k := by omega
    have skip : ¬ (k / 60 < D 1 ∧ k / 10 % 6 < D 1) → q_At G X_M_laysNoises (d + 2) 0 0 2 [some (.ref 159), some (.int (nI (k + 1))), none, none, none] [] σ1 Q := fun hn => ih σ1 fr (fun f e t a1 a2 a3 a4 => by
      by_cases c : 60 * f + 10 * e + t < k
      · exact h1 f e t a1 a2 a3 c
      · exact absurd ⟨by omega, by omega⟩ hn)
    have done : ∀ (σ2 : q_S) (x : Int32), Fr Sn noL σ σ2 → (∀ i, q_I σ2 177 i = q_I σ1 177 i) → x = nz D P (k / 60) (k / 10 % 6) (k % 10) → q_At G X_M_laysNoises (d + 2) 0 0 2 [some (.ref 159), some (.int (nI (k + 1))), none, none, none] [] (q_setI σ2 177 k x) Q := fun σ2 x f2 hx e => ih _ (f2.tr (Fr.setI (Or.inr (Or.inr rfl)))) (fun f e' t a1 a2 a3 a4 => by
      by_cases c : 60 * f + 10 * e' + t = k
      · rw [c, q_I_eq, e]
        have q1 : k / 60 = f := by omega
        have q2 : k / 10 % 6 = e' := by omega
        have q3 : k % 10 = t := by omega
        rw [q1, q2, q3]
      · rw [q_I_ne (by omega), hx]
        exact h1 f e' t a1 a2 a3 (by omega))
    refine v_M_laysNoises_2 hs1 ⟨fun c => ge_not (b := 360) c hk (by decide), fun _ => ⟨fun c => ?_, fun c => ⟨fun c2 => ?_, fun c2 => ?_⟩⟩⟩
    · rw [nI_1]
      rw [hT1.F, d1] at c
      exact skip (fun h => ge_not c h.1 (by omega))
    · rw [nI_1]
      rw [hT1.F, d3] at c2
      exact skip (fun h => ge_not c2 h.2 (by omega))
    · rw [hT1.F, d1] at c
      rw [hT1.F, d3] at c2
      have g1 : k / 60 < D 1 := Nat.lt_of_not_le (fun h => c (nI_le h (by omega)))
      have g2 : k / 10 % 6 < D 1 := Nat.lt_of_not_le (fun h => c2 (nI_le h (by omega)))
      rw [d3, d1, d4, nI_1]
      refine M_loud_ok hs1 hD hT1 g2 ⟨hs1, _, rfl, ?_⟩
      have f2 : Fr Sn noL σ (q_setI σ1 173 0 (loud D (k / 10 % 6))) := fr.tr (Fr.setI (Or.inl rfl))
      refine M_hear_ok (f2.sh hs) hD (hk0 _ f2) g1 ⟨f2.sh hs, _, rfl, ?_⟩
      have f3 : Fr Sn noL σ (q_setI (q_setI (q_setI σ1 173 0 (loud D (k / 10 % 6))) 173 1 (hear D (k / 60))) 173 2 (nI (k % 10))) := f2.tr (Fr.tr (Fr.setI (Or.inl rfl)) (Fr.setI (Or.inl rfl)))
      have e0 : q_I (q_setI (q_setI (q_setI σ1 173 0 (loud D (k / 10 % 6))) 173 1 (hear D (k / 60))) 173 2 (nI (k % 10))) 173 0 = loud D (k / 10 % 6) := by rw [q_I_ne (by omega), q_I_ne (by omega), q_I_eq]
      have e1 : q_I (q_setI (q_setI (q_setI σ1 173 0 (loud D (k / 10 % 6))) 173 1 (hear D (k / 60))) 173 2 (nI (k % 10))) 173 1 = hear D (k / 60) := by rw [q_I_ne (by omega), q_I_eq]
      have e2 : q_I (q_setI (q_setI (q_setI σ1 173 0 (loud D (k / 10 % 6))) 173 1 (hear D (k / 60))) 173 2 (nI (k % 10))) 173 2 = nI (k % 10) := q_I_eq
      have hx : ∀ i, q_I (q_setI (q_setI (q_setI σ1 173 0 (loud D (k / 10 % 6))) 173 1 (hear D (k / 60))) 173 2 (nI (k % 10))) 177 i = q_I σ1 177 i := fun i => by rw [q_I_ne (by omega), q_I_ne (by omega), q_I_ne (by omega)]
      have := M_lawv (G := G) (d := d) (w := 0) (K := fun x σ' => ∃ k', nI k = nI k' ∧ k' < 360 ∧ q_At G X_M_laysNoises (d + 2) 0 0 2 [some (.ref 159), some (.int (nI (k + 1))), none, none, none] [] (q_setI σ' 177 k' (if 0 ≤ x then (if x ≤ 99 then x else (99 : Int32)) else (0 : Int32))) Q) (f3.sh hs) (hk0 _ f3) hP (by decide) ⟨e0, e1, e2⟩ (fun σ' f4 => ⟨k, rfl, hk, by
        rw [clmp_of (by decide)]
        refine done σ' _ (f3.tr (f4.mono (fun a i h => Or.inr (Or.inl h)) (fun _ _ h => h))) (fun i => ?_) rfl
        rw [f4.2.2.1 _ _ (by simp [Sp]), hx]⟩)
      refine ⟨this.1, fun c => ?_⟩
      have h2 := this.2 c
      rw [e0, e1, e2]
      exact h2
def pop30 (x : Int32) : Nat → Int32 := bx_sum (fun k => (x >>> (nI k &&& 31)) &&& 1)
theorem M_bits_ok {x : Int32} (hs : q_Sh σ) (hq : Q (some (.int (pop30 x 30))) σ) : q_Call G d 0 0 X_M_bits [.int x] σ Q := by
  refine q_ci (by decide +kernel) (Nat.le_of_ble_eq_true rfl) (fun Q hq => ?_) hq
  refine v_M_bits_0 hs ?_
  refine up_ind (R := fun k => q_At G X_M_bits d 0 0 4 [some (.int x), some (.int (pop30 x k)), some (.int (nI k))] [] σ Q) (n := 30) ?_ (fun k hk ih => ?_) 0 (Nat.zero_le _)
  · exact v_M_bits_4 hs ⟨fun _ => hq, fun c => absurd (by decide) c⟩
  · refine v_M_bits_4 hs ⟨fun c => ge_not (b := 30) c hk (by decide), fun _ => ?_⟩
    rw [nI_1]
    exact ih
end MOD5
