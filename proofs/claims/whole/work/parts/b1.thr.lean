-- joy, hope, rests, gains: what both sides say; none: nobody can be asked
def a_joy (D hm : Nat → Nat) (P : Nat → List Int32) (x : Int32) : Option Int32 := if isN (D 1) x = 0 then none else some (joyv D hm P x.toNatClampNeg)
def a_hope (D : Nat → Nat) (P : Nat → List Int32) (x : Int32) : Option Int32 := if isN (D 1) x = 0 then none else some ((((jsm D P x.toNatClampNeg (wys D)).toInt64 * 1000) / (nI (wys D).length).toInt64).toInt32)
def a_gains (D hm : Nat → Nat) (L : Nat → Int32) (x : Int32) : Option Int32 := if isN (D 1) x = 0 then none else some (bx_sum (fun e => lpd D hm L x.toNatClampNeg e - lpd D hm L e x.toNatClampNeg) (D 1))
def rst (D : Nat → Nat) (P : Nat → List Int32) (f e c : Nat) : Bool := decide (¬ hedg D P f e (nI (c / 2)) (nI (c % 2)) < hedg D P f e (1 - nI (c / 2)) (nI (c % 2))) && decide (¬ hedg D P e f (nI (c % 2)) (nI (c / 2)) < hedg D P e f (1 - nI (c % 2)) (nI (c / 2)))
def rfd (b : Nat → Bool) (z : Int32) : Nat → Nat × Option Nat
  | 0 => (0, none)
  | k + 1 => if b k then ((rfd b z k).1 + 1, match (rfd b z k).2 with
    | some c => some c
    | none => if nI (rfd b z k).1 = z then some k else none) else rfd b z k
def a_rests (D hm : Nat → Nat) (P : Nat → List Int32) (x y z : Int32) : Option Int32 := if twoN (D 1) x y = 0 then none else if z < -1 then none else if thk D hm x.toNatClampNeg y.toNatClampNeg = 0 then none else if z = -1 then some (nI (rfd (rst D P x.toNatClampNeg y.toNatClampNeg) z 4).1) else ((rfd (rst D P x.toNatClampNeg y.toNatClampNeg) z 4).2).map nI
theorem rfd_le {b : Nat → Bool} {z : Int32} : ∀ k, (rfd b z k).1 ≤ k
  | 0 => Nat.le_refl _
  | k + 1 => by
    have := rfd_le (b := b) (z := z) k
    rw [rfd]
    split
    · exact Nat.succ_le_succ this
    · omega
theorem rfd_up {b : Nat → Bool} {z : Int32} {c : Nat} : ∀ {k m : Nat}, (rfd b z k).2 = some c → (rfd b z (k + m)).2 = some c
  | k, 0, h => h
  | k, m + 1, h => by
    have := rfd_up (m := m) h
    rw [← Nat.add_assoc, rfd]
    split
    · simp only [this]
    · exact this
theorem rfd_lt {b : Nat → Bool} {z : Int32} : ∀ {k c : Nat}, (rfd b z k).2 = some c → c < k ∧ ∃ n, n < (rfd b z k).1 ∧ z = nI n
  | 0, c, h => by cases h
  | k + 1, c, h => by
    rw [rfd] at h ⊢
    split at h
    · rename_i hb
      simp only [hb, if_true]
      cases e : (rfd b z k).2 with
      | some c' =>
        rw [e] at h
        cases h
        obtain ⟨h1, n, h2, h3⟩ := rfd_lt e
        exact ⟨by omega, n, Nat.lt_succ_of_lt h2, h3⟩
      | none =>
        rw [e] at h
        dsimp only at h
        split at h
        · cases h
          rename_i hz
          exact ⟨Nat.lt_succ_self _, _, Nat.lt_succ_self _, hz.symm⟩
        · cases h
    · rename_i hb
      simp only [hb]
      obtain ⟨h1, n, h2, h3⟩ := rfd_lt h
      exact ⟨by omega, n, h2, h3⟩
theorem clmp_b {v : Int32} : -999 ≤ (clmp (-999) 999 v).toInt ∧ (clmp (-999) 999 v).toInt ≤ 999 := by
  unfold clmp
  split
  · decide
  · split
    · decide
    · rename_i h1 h2
      rw [Int32.lt_iff_toInt_lt] at h1 h2
      have e1 : (-999 : Int32).toInt = -999 := by decide
      have e2 : (999 : Int32).toInt = 999 := by decide
      omega
theorem add64 {a b : Int32} (h1 : -2 ^ 31 ≤ a.toInt + b.toInt) (h2 : a.toInt + b.toInt < 2 ^ 31) : (a + b).toInt = a.toInt + b.toInt ∧ (a + b).toInt64 = a.toInt64 + b.toInt64 := by
  have e1 : (a + b).toInt = a.toInt + b.toInt := by
    rw [Int32.toInt_add]
    exact Int.bmod_eq_of_le (by omega) (by omega)
  refine ⟨e1, ?_⟩
  apply Int64.toInt_inj.mp
  rw [Int64.toInt_add, Int32.toInt_toInt64, Int32.toInt_toInt64, Int32.toInt_toInt64, e1]
  exact (Int.bmod_eq_of_le (by omega) (by omega)).symm
theorem jsm_s {D : Nat → Nat} {P : Nat → List Int32} {f : Nat} {ws : List (Nat → Nat)} {k : Nat} {w : Nat → Nat} (h : ws[k]? = some w) : jsm D P f (ws.take (k + 1)) = jsm D P f (ws.take k) + joyv D w P f := by
  rw [List.take_add_one, h]
  simp [jsm, List.foldl_append]
theorem jsm_b {D : Nat → Nat} {P : Nat → List Int32} {f : Nat} {ws : List (Nat → Nat)} : ∀ k, k ≤ ws.length → k ≤ 720 → -(999 * (k : Int)) ≤ (jsm D P f (ws.take k)).toInt ∧ (jsm D P f (ws.take k)).toInt ≤ 999 * (k : Int)
  | 0, _, _ => by
    rw [List.take_zero]
    show -(999 * ((0 : Nat) : Int)) ≤ (0 : Int32).toInt ∧ (0 : Int32).toInt ≤ 999 * ((0 : Nat) : Int)
    decide
  | k + 1, h, h7 => by
    obtain ⟨w, hw⟩ := get_some (ws := ws) (k := k) (by omega)
    obtain ⟨g1, g2⟩ := jsm_b (D := D) (P := P) (f := f) (ws := ws) k (by omega) (by omega)
    rw [jsm_s hw]
    have hb : -999 ≤ (joyv D w P f).toInt ∧ (joyv D w P f).toInt ≤ 999 := clmp_b
    rw [(add64 (by omega) (by omega)).1]
    omega
theorem jsm_64 {D : Nat → Nat} {P : Nat → List Int32} {f : Nat} {ws : List (Nat → Nat)} {k : Nat} {w : Nat → Nat} (h : ws[k]? = some w) (h7 : k < 720) : (jsm D P f (ws.take (k + 1))).toInt64 = (jsm D P f (ws.take k)).toInt64 + (joyv D w P f).toInt64 := by
  have hk : k < ws.length := (List.getElem?_eq_some_iff.mp h).1
  obtain ⟨g1, g2⟩ := jsm_b (D := D) (P := P) (f := f) (ws := ws) k (by omega) (by omega)
  have hb : -999 ≤ (joyv D w P f).toInt ∧ (joyv D w P f).toInt ≤ 999 := clmp_b
  rw [jsm_s h, (add64 (by omega) (by omega)).2]
section THR
variable {G : q_G} {d : Nat} {σ σ' : q_S} {Q : Option Value → q_S → Prop} {QX : q_S → Prop} {t p : Nat} {D : Nat → Nat} {P : Nat → List Int32} {N : q_nm} {hm : Nat → Nat} {L : Nat → Int32} {un : List q_lf} {mk : Nat → Option (q_lf × q_tl)} {tl : q_tl} {dy : q_dy} {tp : List Nat} {x y z : Int32}
theorem W_joy_ok (hst : (g_l G).stackTraces = false) (hs : q_Sh σ) (hw : WJ D P N hm L un mk tl dy tp) (hJ : CJ σ t p D P N L un mk tl dy tp) (hq : ∀ σ', Fr lo_ lo_ σ σ' → CJ σ' t p D P N L un mk tl dy tp → (∀ v, a_joy D hm P x = some v → Q (some (.int v)) σ') ∧ (a_joy D hm P x = none → QX σ')) : x_Call G (d + 14) X_W_joy [.ref 0, .int x] σ Q QX := by
  have h6 := hw.1.F6
  refine x_enter hst (by omega) rfl x_joy (Nat.le_of_ble_eq_true rfl) ?_
  refine v_W_joy_0 hs (W_isFamily_ok hs hJ.1 ⟨hs, _, rfl, fun k => ⟨t, hJ.1.1.1, hJ.1.1.2.1, ?_⟩, fun k => Or.inl ⟨rfl, (hq σ Fr.rf hJ).2 (by rw [a_joy, if_pos k])⟩⟩)
  obtain ⟨f, a1, rfl⟩ := isN_s (by omega) k
  refine Tw_joy_ok (d := d + 10) hJ.1.1.2.1 (by decide +kernel) hs hw.1 hw.2.1 hJ.1.2.2.1 (hJ.1.hom hw) a1 (fun σ1 f1 => ⟨f1.sh hs, _, rfl, Or.inr ⟨q_no_i, (hq σ1 (f1.lo (fun a i z => Sc_lo z) (fun _ _ z => z.elim)) (hJ.sc hw f1)).1 _ ?_⟩⟩)
  rw [a_joy, if_neg k, nI_clamp (by omega)]
theorem W_hope_ok (hst : (g_l G).stackTraces = false) (hs : q_Sh σ) (hw : WJ D P N hm L un mk tl dy tp) (hJ : CJ σ t p D P N L un mk tl dy tp) (hq : ∀ σ', Fr lo_ lo_ σ σ' → CJ σ' t p D P N L un mk tl dy tp → (∀ v, a_hope D P x = some v → Q (some (.int v)) σ') ∧ (a_hope D P x = none → QX σ')) : x_Call G (d + 14) X_W_hope [.ref 0, .int x] σ Q QX := by
  have h6 := hw.1.F6
  have hl := wys_len hw.1
  refine x_enter hst (by omega) rfl x_hope (Nat.le_of_ble_eq_true rfl) ?_
  refine v_W_hope_0 hs (W_isFamily_ok hs hJ.1 ⟨hs, _, rfl, fun k => ⟨t, hJ.1.1.1, hJ.1.1.2.1, ?_⟩, fun k => Or.inl ⟨rfl, (hq σ Fr.rf hJ).2 (by rw [a_hope, if_pos k])⟩⟩)
  obtain ⟨f, a1, rfl⟩ := isN_s (by omega) k
  refine Wy_learn_ok (d := d + 1) hJ.1.1.2.1 hs hw.1 hw.2.1 hJ.1.2.2.1 hJ.2 (fun σ1 f1 g1 g2 => ⟨f1.sh hs, rfl, fun _ => ⟨f, rfl, by omega, by rw [g2.2.1]; exact nz64 hl.2 (by omega), Or.inr ⟨q_no_i, ?_⟩⟩, fun c => absurd (by rw [g2.2.1]; exact nI_le (a := 1) hl.2 (by omega)) c⟩)
  refine (hq σ1 (SLn_L f1) (hJ.ln hw f1 g1 g2)).1 _ ?_
  rw [a_hope, if_neg k, nI_clamp (by omega), g2.2.1, g2.2.2.2 f a1]
theorem W_gains_ok (hst : (g_l G).stackTraces = false) (hs : q_Sh σ) (hw : WJ D P N hm L un mk tl dy tp) (hJ : CJ σ t p D P N L un mk tl dy tp) (hq : ∀ σ', Fr lo_ lo_ σ σ' → CJ σ' t p D P N L un mk tl dy tp → (∀ v, a_gains D hm L x = some v → Q (some (.int v)) σ') ∧ (a_gains D hm L x = none → QX σ')) : x_Call G (d + 14) X_W_gains [.ref 0, .int x] σ Q QX := by
  have h6 := hw.1.F6
  have ht := hJ.1.1.2.1
  refine x_enter hst (by omega) rfl x_gains (Nat.le_of_ble_eq_true rfl) ?_
  refine v_W_gains_0 hs (W_isFamily_ok hs hJ.1 ⟨hs, _, rfl, fun k => ?_, fun k => Or.inl ⟨rfl, (hq σ Fr.rf hJ).2 (by rw [a_gains, if_pos k])⟩⟩)
  obtain ⟨f, a1, rfl⟩ := isN_s (by omega) k
  refine up_ind (R := fun k => q_At G X_W_gains (d + 14) 0 0 20 [some (.ref 0), some (.int (nI f)), some (.int (bx_sum (fun e => lpd D hm L f e - lpd D hm L e f) k)), some (.int (nI k))] [] σ _) (n := D 1) ?_ (fun i hi ih => ?_) 0 (Nat.zero_le _)
  · refine v_W_gains_20 hs ⟨t, hJ.1.1.1, ht, fun _ => Or.inr ⟨q_no_i, (hq σ Fr.rf hJ).1 _ ?_⟩, fun c => absurd (by rw [hJ.1.2.2.1.1.1.2.1]; exact Int32.le_refl _) c⟩
    rw [a_gains, if_neg k, nI_clamp (by omega)]
  · refine v_W_gains_20 hs ⟨t, hJ.1.1.1, ht, fun c => ?_, fun _ => ?_⟩
    · rw [hJ.1.2.2.1.1.1.2.1] at c; exact ge_not c hi (by omega)
    · refine Li_lapsing_ok (d := d + 10) ht isLi_15 hs hw.1 hJ.1.2.2.1.1 hJ.1.2.2.2.2.1 hw.2.2.2.2.1.1 a1 hi ⟨hs, _, rfl, t, hJ.1.1.1, ht, Li_lapsing_ok (d := d + 10) ht isLi_15 hs hw.1 hJ.1.2.2.1.1 hJ.1.2.2.2.2.1 hw.2.2.2.2.1.1 hi a1 ⟨hs, _, rfl, ?_⟩⟩
      rw [bx_sum] at ih
      rw [nI_1]
      exact ih
theorem c4_a {c : Nat} (h : c < 4) : nI c >>> ((1 : Int32) &&& 31) = nI (c / 2) ∧ nI c &&& 1 = nI (c % 2) ∧ nI c / 2 = nI (c / 2) ∧ nI c - nI c / 2 * 2 = nI (c % 2) := by
  rcases (by omega : c = 0 ∨ c = 1 ∨ c = 2 ∨ c = 3) with rfl | rfl | rfl | rfl <;> decide
theorem Tw_rest_ok {f e c : Nat} (ht : q_isTw t) (hs : q_Sh σ) (hD : WfD D) (hP : WfP P) (hT : CT σ t D P) (hk : ∀ σ', Fr Sc noL σ σ' → CT σ' t D P) (hf : f < D 1) (he : e < D 1) (hc : c < 4) (hq : ∀ σ', Fr Sc noL σ σ' → Q (some (.int (if rst D P f e c then 1 else 0))) σ') : q_Call G (d + 4) 0 0 X_Tw_isAtRest [.ref t, .int (nI f), .int (nI e), .int (nI c)] σ Q := by
  obtain ⟨c1, c2, _, _⟩ := c4_a hc
  refine q_cii (Pp := fun v σ' => v = (if rst D P f e c then 1 else 0) ∧ Fr Sc noL σ σ') (by decide +kernel) (Nat.le_of_ble_eq_true rfl) (fun Q hq => ?_) (fun v σ' h => by rw [h.1]; exact hq σ' h.2)
  refine v_Tw_isAtRest_0 ht hs ?_
  rw [c1, c2]
  refine Tw_hedge_ok (d := d) ht hs hD hP hT hf he (fun σ1 f1 => ⟨f1.sh hs, _, rfl, ?_⟩)
  refine Tw_hedge_ok (d := d) ht (f1.sh hs) hD hP (hk _ f1) hf he (fun σ2 f2 => ⟨f2.sh (f1.sh hs), _, rfl, fun k => hq _ _ ⟨?_, f1.tr f2⟩, fun k => ?_⟩)
  · rw [rst]; simp [k]
  · have f12 := f1.tr f2
    refine Tw_hedge_ok (d := d) ht (f12.sh hs) hD hP (hk _ f12) he hf (fun σ3 f3 => ⟨f3.sh (f12.sh hs), _, rfl, ?_⟩)
    have f13 := f12.tr f3
    refine Tw_hedge_ok (d := d) ht (f13.sh hs) hD hP (hk _ f13) he hf (fun σ4 f4 => ⟨f4.sh (f13.sh hs), _, rfl, ?_, hq _ _ ⟨?_, f13.tr f4⟩⟩)
    · split <;> rfl
    · rw [rst]
      by_cases k2 : hedg D P e f (nI (c % 2)) (nI (c / 2)) < hedg D P e f (1 - nI (c % 2)) (nI (c / 2))
      · simp [k, k2]
      · simp [k, k2]
theorem W_rests_ok (hst : (g_l G).stackTraces = false) (hs : q_Sh σ) (hw : WJ D P N hm L un mk tl dy tp) (hJ : CJ σ t p D P N L un mk tl dy tp) (hq : ∀ σ', Fr lo_ lo_ σ σ' → CJ σ' t p D P N L un mk tl dy tp → (∀ v, a_rests D hm P x y z = some v → Q (some (.int v)) σ') ∧ (a_rests D hm P x y z = none → QX σ')) : x_Call G (d + 14) X_W_rests [.ref 0, .int x, .int y, .int z] σ Q QX := by
  have h6 := hw.1.F6
  have ht := hJ.1.1.2.1
  refine x_enter hst (by omega) rfl x_rests (Nat.le_of_ble_eq_true rfl) ?_
  have no : a_rests D hm P x y z = none → QX σ := fun e => (hq σ Fr.rf hJ).2 e
  refine v_W_rests_0 hs (W_areTwo_ok (d := d + 12) hs hJ.1 ⟨hs, _, rfl, fun k => Or.inl ⟨rfl, no (by rw [a_rests, if_pos k])⟩, fun k => ⟨fun k2 => Or.inl ⟨rfl, no (by rw [a_rests, if_neg k, if_pos k2])⟩, fun k2 => ⟨t, hJ.1.1.1, ht, ?_⟩⟩⟩)
  obtain ⟨f, e, a1, a2, a3, rfl, rfl⟩ := twoN_s (by omega) k
  have e0 : a_rests D hm P (nI f) (nI e) z = if thk D hm f e = 0 then none else if z = -1 then some (nI (rfd (rst D P f e) z 4).1) else ((rfd (rst D P f e) z 4).2).map nI := by rw [a_rests, if_neg k, if_neg k2, nI_clamp (by omega), nI_clamp (by omega)]
  refine Tw_near_ok (d := d + 11) ht (by decide +kernel) hs hw.1 hJ.1.2.2.1.1 (hJ.1.hom hw) a1 a2 ⟨hs, _, rfl, fun k3 => ?_, fun k3 => Or.inl ⟨rfl, no ?_⟩⟩
  · have hth : ¬ thk D hm f e = 0 := fun h => k3 (by rw [if_pos h])
    rw [if_neg hth] at e0
    refine up_ind (R := fun i => ∀ σ1, Fr Sc noL σ σ1 → (rfd (rst D P f e) z i).2 = none → q_At G X_W_rests (d + 14) 0 0 47 [some (.ref 0), some (.int (nI f)), some (.int (nI e)), some (.int z), some (.int (nI (rfd (rst D P f e) z i).1)), some (.int (nI i))] [] σ1 _) (n := 4) (fun σ1 f1 hn => ?_) (fun i hi ih σ1 f1 hn => ?_) 0 (Nat.zero_le _) σ Fr.rf rfl
    · have hq1 := hq σ1 (f1.lo (fun a i z => Sc_lo z) (fun _ _ z => z.elim)) (hJ.sc hw f1)
      refine v_W_rests_47 (f1.sh hs) ⟨fun _ => ⟨fun c => Or.inr ⟨q_no_i, hq1.1 _ (by rw [e0, if_pos c])⟩, fun c => Or.inl ⟨rfl, hq1.2 (by rw [e0, if_neg c, hn]; rfl)⟩⟩, fun c => absurd (Int32.le_refl _) c⟩
    · have hJ1 := hJ.sc hw f1
      have h4 := rfd_le (b := rst D P f e) (z := z) i
      refine v_W_rests_47 (f1.sh hs) ⟨fun c => ge_not (b := 4) c hi (by decide), fun _ => ⟨t, hJ1.1.1.1, ht, ?_⟩⟩
      refine Tw_rest_ok (d := d + 9) ht (f1.sh hs) hw.1 hw.2.1 hJ1.1.2.2.1 (fun σ' f' => (hJ1.sc hw f').1.2.2.1) a1 a2 hi (fun σ2 f2 => ⟨f2.sh (f1.sh hs), _, rfl, fun c => ?_, fun c => ⟨fun c2 => ?_, fun c2 => ?_⟩⟩)
      · have hb : rst D P f e i = false := by
          cases h : rst D P f e i with
          | false => rfl
          | true => rw [h, if_pos rfl] at c; exact absurd c (by decide)
        have e1 : rfd (rst D P f e) z (i + 1) = rfd (rst D P f e) z i := by rw [rfd, hb]; rfl
        rw [e1] at ih
        rw [nI_1]
        exact ih σ2 (f1.tr f2) hn
      · have hb : rst D P f e i = true := by
          cases h : rst D P f e i with
          | true => rfl
          | false => rw [h] at c; exact absurd rfl c
        have e1 : rfd (rst D P f e) z (i + 1) = ((rfd (rst D P f e) z i).1 + 1, none) := by rw [rfd, hb, if_pos rfl, hn]; dsimp only; rw [if_neg c2]
        rw [e1] at ih
        rw [nI_1, nI_1]
        exact ih σ2 (f1.tr f2) rfl
      · have hb : rst D P f e i = true := by
          cases h : rst D P f e i with
          | true => rfl
          | false => rw [h] at c; exact absurd rfl c
        have e1 : (rfd (rst D P f e) z (i + 1)).2 = some i := by rw [rfd, hb, if_pos rfl, hn]; dsimp only; rw [if_pos c2]
        have e2 : (rfd (rst D P f e) z 4).2 = some i := by
          have := rfd_up (m := 4 - (i + 1)) e1
          rwa [show i + 1 + (4 - (i + 1)) = 4 by omega] at this
        have f12 := f1.tr f2
        refine Or.inr ⟨q_no_i, (hq σ2 (f12.lo (fun a i z => Sc_lo z) (fun _ _ z => z.elim)) (hJ.sc hw f12)).1 _ ?_⟩
        rw [e0, if_neg (by rw [← c2]; exact nm1 _ (by omega)), e2]
        rfl
  · rw [e0, if_pos]
    apply Classical.byContradiction
    intro h
    rw [if_neg h] at k3
    exact absurd k3 (by decide)
end THR
