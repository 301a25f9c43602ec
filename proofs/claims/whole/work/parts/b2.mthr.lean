section MTHR
variable {G : q_G} {d : Nat} {σ σ' : q_S} {Q : Option Value → q_S → Prop} {t p : Nat} {D : Nat → Nat} {P : Nat → List Int32} {N : q_nm} {hm : Nat → Nat} {L : Nat → Int32} {un : List q_lf} {mk : Nat → Option (q_lf × q_tl)} {tl : q_tl} {dy : q_dy} {tp : List Nat} {x y z : Int32}
def thr {α : Type} (o : Option α) : Int32 := match o with
  | none => 1
  | some _ => 0
theorem Sm_hi (hf : Fr Sm noL σ σ') : Fr hi_ noL σ σ' := hf.mono (fun a i z => by unfold Sm at z; unfold hi_; omega) (fun _ _ z => z)
theorem qM_HN (hf : Fr qM noL σ σ') : Fr hi_ noL σ σ' := hf.mono (fun a i z => by unfold qM at z; unfold hi_; omega) (fun _ _ z => z)
theorem Sm_0 (hf : Fr Sm noL σ σ') : q_I σ' 159 0 = q_I σ 159 0 := hf.2.2.1 _ _ (fun z => by unfold Sm at z; omega)
theorem qW_0 (hf : Fr qW noL σ σ') : q_I σ' 159 0 = q_I σ 159 0 := hf.2.2.1 _ _ (fun z => by unfold qW at z; omega)
theorem T0_fr {v : Int32} : Fr hi_ noL σ (q_setI σ 159 0 v) := Fr.setI (by unfold hi_; omega)
theorem M_joy_okk (hs : q_Sh σ) (hw : WJ D P N hm L un mk tl dy tp) (hJ : MJ σ D P N L un mk tl dy tp) (hq : ∀ σ', Fr hi_ noL σ σ' → MJ σ' D P N L un mk tl dy tp → q_I σ' 159 0 = thr (a_joy D hm P x) → Q (some (.int ((a_joy D hm P x).getD 0))) σ') : q_Call G (d + 9) 0 0 X_M_joy [.ref 159, .int x] σ Q := by
  have h6 := hw.1.F6
  refine q_cii (Pp := fun v σ' => v = (a_joy D hm P x).getD 0 ∧ Fr hi_ noL σ σ' ∧ MJ σ' D P N L un mk tl dy tp ∧ q_I σ' 159 0 = thr (a_joy D hm P x)) (by decide +kernel) (Nat.le_of_ble_eq_true rfl) (fun Q hq => ?_) (fun v σ' h => by rw [h.1]; exact hq σ' h.2.1 h.2.2.1 h.2.2.2)
  refine v_M_joy_0 hs (M_isFamily_ok (d := d + 7) hs hJ.1.1 ⟨hs, _, rfl, ?_⟩)
  dsimp only
  rw [q_I_eq]
  by_cases k : isN (D 1) x = 0
  · rw [if_pos k]
    refine ⟨fun c => absurd c (by decide), fun _ => hq _ _ ⟨by rw [a_joy, if_pos k]; rfl, T0_fr, hJ.th hw, by rw [q_I_eq, a_joy, if_pos k]; rfl⟩⟩
  · rw [if_neg k]
    refine ⟨fun _ => ?_, fun c => absurd (by decide) c⟩
    obtain ⟨f, a1, rfl⟩ := isN_s (by omega) k
    have hs1 : q_Sh (q_setI σ 159 0 0) := T0_fr.sh hs
    have hJ1 := hJ.th (v := 0) hw
    refine M_joy_ok (b := 0) (d := d + 6) hs1 hw.1 hw.2.1 hJ1.1 (hJ1.hb hw) (by decide) a1 (fun σ' fr => ⟨fr.sh hs1, _, rfl, hq _ _ ⟨?_, T0_fr.tr (Sm_hi fr), hJ1.sm hw fr, ?_⟩⟩)
    · rw [a_joy, if_neg k, nI_clamp (by omega)]; rfl
    · rw [Sm_0 fr, q_I_eq, a_joy, if_neg k]; rfl
theorem M_hope_ok (hs : q_Sh σ) (hw : WJ D P N hm L un mk tl dy tp) (hJ : MJ σ D P N L un mk tl dy tp) (hq : ∀ σ', Fr hi_ noL σ σ' → MJ σ' D P N L un mk tl dy tp → q_I σ' 159 0 = thr (a_hope D P x) → Q (some (.int ((a_hope D P x).getD 0))) σ') : q_Call G (d + 9) 0 0 X_M_hope [.ref 159, .int x] σ Q := by
  have h6 := hw.1.F6
  have hl := wys_len hw.1
  refine q_cii (Pp := fun v σ' => v = (a_hope D P x).getD 0 ∧ Fr hi_ noL σ σ' ∧ MJ σ' D P N L un mk tl dy tp ∧ q_I σ' 159 0 = thr (a_hope D P x)) (by decide +kernel) (Nat.le_of_ble_eq_true rfl) (fun Q hq => ?_) (fun v σ' h => by rw [h.1]; exact hq σ' h.2.1 h.2.2.1 h.2.2.2)
  refine v_M_hope_0 hs (M_isFamily_ok (d := d + 7) hs hJ.1.1 ⟨hs, _, rfl, ?_⟩)
  dsimp only
  rw [q_I_eq]
  by_cases k : isN (D 1) x = 0
  · rw [if_pos k]
    refine ⟨fun c => absurd c (by decide), fun _ => hq _ _ ⟨by rw [a_hope, if_pos k]; rfl, T0_fr, hJ.th hw, by rw [q_I_eq, a_hope, if_pos k]; rfl⟩⟩
  · rw [if_neg k]
    refine ⟨fun _ => ?_, fun c => absurd (by decide) c⟩
    obtain ⟨f, a1, rfl⟩ := isN_s (by omega) k
    have hs1 : q_Sh (q_setI σ 159 0 0) := T0_fr.sh hs
    have hJ1 := hJ.th (v := 0) hw
    have e0 : a_hope D P (nI f) = some ((((jsm D P f (wys D)).toInt64 * 1000) / (nI (wys D).length).toInt64).toInt32) := by rw [a_hope, if_neg k, nI_clamp (by omega)]
    refine M_findWays_ok (d := d) hs1 hw.1 hJ1.1.1 (fun σ1 f1 g1 => ⟨f1.sh hs1, rfl, ?_⟩)
    have hs2 := f1.sh hs1
    have hJ2 := hJ1.qm hw (SMl_q f1)
    have z1 : q_I σ1 159 0 = 0 := by rw [f1.2.2.1 _ _ (fun z => by unfold SMl at z; omega), q_I_eq]
    refine up_ind (R := fun k => ∀ σ2, Fr qW noL σ1 σ2 → q_At G X_M_hope (d + 9) 0 0 35 [some (.ref 159), some (.int (nI f)), some (.long (jsm D P f ((wys D).take k)).toInt64), none, some (.int (nI k))] [] σ2 Q) (n := (wys D).length) (fun σ2 f2 => ?_) (fun k hk ih σ2 f2 => ?_) 0 (Nat.zero_le _) σ1 Fr.rf
    · have eW := (g1.qw f2).1
      refine v_M_hope_35 (f2.sh hs2) ⟨fun _ => ⟨by rw [eW]; exact nz64 hl.2 (by omega), ?_⟩, fun c => absurd (by rw [eW]; exact Int32.le_refl _) c⟩
      rw [eW]
      refine hq _ _ ⟨?_, T0_fr.tr ((qM_HN (SMl_q f1)).tr (qM_HN (qW_qM f2))), hJ2.qm hw (qW_qM f2), ?_⟩
      · rw [e0, List.take_length]; rfl
      · rw [qW_0 f2, z1, e0]; rfl
    · have eW := (g1.qw f2).1
      obtain ⟨w, hwk⟩ := get_some hk
      rw [jsm_64 hwk (by omega)] at ih
      refine v_M_hope_35 (f2.sh hs2) ⟨fun c => by rw [eW] at c; exact ge_not c hk (by omega), fun _ => ?_⟩
      refine M_laysWay_ok (d := d + 7) (f2.sh hs2) hw.1 (hJ2.qm hw (qW_qM f2)).1.1 (g1.qw f2) hwk (fun σ3 f3 g3 => ⟨f3.sh (f2.sh hs2), rfl, ?_⟩)
      have f4 := f2.tr (SMo_q f3)
      refine M_joy_ok (b := 1804) (d := d + 6) (f4.sh hs2) hw.1 hw.2.1 (hJ2.qm hw (qW_qM f4)).1 g3 (by decide) a1 (fun σ4 f5 => ⟨f5.sh (f4.sh hs2), _, rfl, ?_⟩)
      rw [nI_1]
      exact ih σ4 (f4.tr (Sm_q f5))
theorem M_gains_ok (hs : q_Sh σ) (hw : WJ D P N hm L un mk tl dy tp) (hJ : MJ σ D P N L un mk tl dy tp) (hq : ∀ σ', Fr hi_ noL σ σ' → MJ σ' D P N L un mk tl dy tp → q_I σ' 159 0 = thr (a_gains D hm L x) → Q (some (.int ((a_gains D hm L x).getD 0))) σ') : q_Call G (d + 9) 0 0 X_M_gains [.ref 159, .int x] σ Q := by
  have h6 := hw.1.F6
  refine q_cii (Pp := fun v σ' => v = (a_gains D hm L x).getD 0 ∧ Fr hi_ noL σ σ' ∧ MJ σ' D P N L un mk tl dy tp ∧ q_I σ' 159 0 = thr (a_gains D hm L x)) (by decide +kernel) (Nat.le_of_ble_eq_true rfl) (fun Q hq => ?_) (fun v σ' h => by rw [h.1]; exact hq σ' h.2.1 h.2.2.1 h.2.2.2)
  refine v_M_gains_0 hs (M_isFamily_ok (d := d + 7) hs hJ.1.1 ⟨hs, _, rfl, ?_⟩)
  dsimp only
  by_cases k : isN (D 1) x = 0
  · rw [if_pos k]
    have hQ := hq 0 (q_setI σ 159 0 1) ⟨by rw [a_gains, if_pos k]; rfl, T0_fr, hJ.th hw, by rw [q_I_eq, a_gains, if_pos k]; rfl⟩
    refine v_M_gains_21 (T0_fr.sh hs) ⟨fun _ => hQ, fun _ => ⟨fun _ => hQ, fun c => ?_⟩⟩
    rw [q_I_eq] at c
    exact absurd c (by decide)
  · rw [if_neg k]
    obtain ⟨f, a1, rfl⟩ := isN_s (by omega) k
    have hs1 : q_Sh (q_setI σ 159 0 0) := T0_fr.sh hs
    have hJ1 := hJ.th (v := 0) hw
    have e0 : a_gains D hm L (nI f) = some (bx_sum (fun e => lpd D hm L f e - lpd D hm L e f) (D 1)) := by rw [a_gains, if_neg k, nI_clamp (by omega)]
    have hdb : ∀ a b, a < D 1 → b < D 1 → (12 + (6 * nI a)) + nI b = nI (12 + (a * 6 + b)) ∧ q_I (q_setI σ 159 0 0) 175 (12 + (a * 6 + b)) = L (12 + (a * 6 + b)) := fun a b h1 h2 => by
      constructor
      · have e1 : (6 : Int32) * nI a = nI (6 * a) := pk_mul 6 a
        have e2 : (12 : Int32) + nI (6 * a) = nI (12 + 6 * a) := nI_add _ _
        rw [e1, e2, nI_add]
        exact congrArg nI (by omega)
      · have := hJ1.2.2.1 (12 + (a * 6 + b)) (by omega)
        rwa [Nat.zero_add] at this
    refine up_ind (R := fun k => q_At G X_M_gains (d + 9) 0 0 21 [some (.ref 159), some (.int (nI f)), some (.int (bx_sum (fun e => lpd D hm L f e - lpd D hm L e f) k)), some (.int (nI k))] [] (q_setI σ 159 0 0) Q) (n := D 1) ?_ (fun e he ih => ?_) 0 (Nat.zero_le _)
    · refine v_M_gains_21 hs1 ⟨fun _ => hq _ _ ⟨by rw [e0]; rfl, T0_fr, hJ1, by rw [q_I_eq, e0]; rfl⟩, fun c => absurd (by rw [hJ1.1.1.F]; exact Int32.le_refl _) c⟩
    · refine v_M_gains_21 hs1 ⟨fun c => by rw [hJ1.1.1.F] at c; exact ge_not c he (by omega), fun _ => ⟨fun c => absurd q_I_eq c, fun _ => ?_⟩⟩
      rw [bx_sum] at ih
      have key : ∀ u v : Int32, u = lpd D hm L f e → v = lpd D hm L e f → q_At G X_M_gains (d + 9) 0 0 21 [some (.ref 159), some (.int (nI f)), some (.int ((bx_sum (fun e => lpd D hm L f e - lpd D hm L e f) e + u) - v)), some (.int (nI e + 1))] [] (q_setI σ 159 0 0) Q := fun u v h1 h2 => by
        have ea : ∀ a b c : Int32, a + b - c = a + (b - c) := fun a b c => by rw [Int32.sub_eq_add_neg, Int32.sub_eq_add_neg, Int32.add_assoc]
        rw [h1, h2, nI_1, ea]
        exact ih
      refine M_lapses_ok (b := 0) (d := d + 7) hs1 hw.1 hJ1.1.1 (hJ1.hb hw) (by decide) a1 he ⟨hs1, _, rfl, fun c => ?_, fun c => ⟨_, (hdb f e a1 he).1, by omega, ?_⟩⟩
      · have e1 : 0 = lpd D hm L f e := by
          unfold lpd
          split at c
          · rename_i h; rw [if_pos h]
          · rename_i h
            split at c
            · rename_i h2; rw [if_neg h, if_pos h2]
            · exact absurd c (by decide)
        refine M_lapses_ok (b := 0) (d := d + 7) hs1 hw.1 hJ1.1.1 (hJ1.hb hw) (by decide) he a1 ⟨hs1, _, rfl, fun c2 => key _ _ e1 ?_, fun c2 => ⟨_, (hdb e f he a1).1, by omega, key _ _ e1 ?_⟩⟩
        · unfold lpd
          split at c2
          · rename_i h; rw [if_pos h]
          · rename_i h
            split at c2
            · rename_i h2; rw [if_neg h, if_pos h2]
            · exact absurd c2 (by decide)
        · rw [(hdb e f he a1).2]
          unfold lpd
          split at c2
          · exact absurd rfl c2
          · rename_i h
            split at c2
            · exact absurd rfl c2
            · rename_i h2; rw [if_neg h, if_neg h2]
      · have e1 : q_I (q_setI σ 159 0 0) 175 (12 + (f * 6 + e)) = lpd D hm L f e := by
          rw [(hdb f e a1 he).2]
          unfold lpd
          split at c
          · exact absurd rfl c
          · rename_i h
            split at c
            · exact absurd rfl c
            · rename_i h2; rw [if_neg h, if_neg h2]
        refine M_lapses_ok (b := 0) (d := d + 7) hs1 hw.1 hJ1.1.1 (hJ1.hb hw) (by decide) he a1 ⟨hs1, _, rfl, fun c2 => key _ _ e1 ?_, fun c2 => ⟨_, (hdb e f he a1).1, by omega, key _ _ e1 ?_⟩⟩
        · unfold lpd
          split at c2
          · rename_i h; rw [if_pos h]
          · rename_i h
            split at c2
            · rename_i h2; rw [if_neg h, if_pos h2]
            · exact absurd c2 (by decide)
        · rw [(hdb e f he a1).2]
          unfold lpd
          split at c2
          · exact absurd rfl c2
          · rename_i h
            split at c2
            · exact absurd rfl c2
            · rename_i h2; rw [if_neg h, if_neg h2]
def oI (o : Option Nat) : Int32 := match o with
  | none => -1
  | some c => nI c
theorem M_rests_ok (hs : q_Sh σ) (hw : WJ D P N hm L un mk tl dy tp) (hJ : MJ σ D P N L un mk tl dy tp) (hq : ∀ σ', Fr hi_ noL σ σ' → MJ σ' D P N L un mk tl dy tp → q_I σ' 159 0 = thr (a_rests D hm P x y z) → Q (some (.int ((a_rests D hm P x y z).getD 0))) σ') : q_Call G (d + 9) 0 0 X_M_rests [.ref 159, .int x, .int y, .int z] σ Q := by
  have h6 := hw.1.F6
  refine q_cii (Pp := fun v σ' => v = (a_rests D hm P x y z).getD 0 ∧ Fr hi_ noL σ σ' ∧ MJ σ' D P N L un mk tl dy tp ∧ q_I σ' 159 0 = thr (a_rests D hm P x y z)) (by decide +kernel) (Nat.le_of_ble_eq_true rfl) (fun Q hq => ?_) (fun v σ' h => by rw [h.1]; exact hq σ' h.2.1 h.2.2.1 h.2.2.2)
  -- nobody to be asked
  have no : a_rests D hm P x y z = none → q_At G X_M_rests (d + 8 + 1) 0 0 40 [some (.ref 159), some (.int x), some (.int y), some (.int z), some (.int 0), some (.int 0), some (.int (-1)), some (.int 0), none, none, none] [] σ Q := fun e => by
    have hQ := hq 0 (q_setI σ 159 0 1) ⟨by rw [e]; rfl, T0_fr, hJ.th hw, by rw [q_I_eq, e]; rfl⟩
    refine v_M_rests_40 hs ⟨fun c => absurd c (by decide), fun _ => ⟨fun _ => ?_, fun c => absurd rfl c⟩⟩
    rw [if_pos rfl, q_I_eq]
    exact hQ
  refine v_M_rests_0 hs (M_areTwo_ok (d := d + 6) hs hJ.1.1 ⟨hs, _, rfl, fun k => no (by rw [a_rests, if_pos k]), fun k => ?_⟩)
  obtain ⟨f, e, a1, a2, a3, rfl, rfl⟩ := twoN_s (by omega) k
  have h9 := thk_le (f := f) (e := e) hw.1 ((hJ.hb hw) f a1).2 ((hJ.hb hw) e a2).2
  refine M_wallBy_ok (b := 0) hs hw.1 hJ.1.1 (hJ.hb hw) (by decide) a1 a2 ⟨hs, _, rfl, ?_⟩
  dsimp only
  by_cases k3 : thk D hm f e = 0
  · rw [if_pos (by rw [k3]; decide)]
    refine no ?_
    rw [a_rests, if_neg k]
    split
    · rfl
    · rw [nI_clamp (by omega), nI_clamp (by omega), if_pos k3]
  rw [if_neg (by rw [← nI_0]; exact nI_ge (by omega) (by omega))]
  by_cases k2 : z < -1
  · rw [if_pos k2]
    exact no (by rw [a_rests, if_neg k, if_pos k2])
  rw [if_neg k2]
  have e0 : a_rests D hm P (nI f) (nI e) z = if z = -1 then some (nI (rfd (rst D P f e) z 4).1) else ((rfd (rst D P f e) z 4).2).map nI := by rw [a_rests, if_neg k, if_neg k2, nI_clamp (by omega), nI_clamp (by omega), if_neg k3]
  refine up_ind (R := fun i => ∀ σ1, Fr Sm noL σ σ1 → q_At G X_M_rests (d + 9) 0 0 40 [some (.ref 159), some (.int (nI f)), some (.int (nI e)), some (.int z), some (.int 1), some (.int (nI (rfd (rst D P f e) z i).1)), some (.int (oI (rfd (rst D P f e) z i).2)), some (.int (nI i)), none, none, none] [] σ1 Q) (n := 4) (fun σ1 f1 => ?_) (fun i hi ih σ1 f1 => ?_) 0 (Nat.zero_le _) σ Fr.rf
  · refine v_M_rests_40 (f1.sh hs) ⟨fun _ => ?_, fun c => absurd (Int32.le_refl _) c⟩
    rw [if_neg (show ¬ (1 : Int32) = 0 by decide), q_I_eq]
    have hJ1 := hJ.sm hw f1
    by_cases c0 : z < 0
    · have ez : z = -1 := by
        apply Int32.toInt_inj.mp
        rw [Int32.lt_iff_toInt_lt] at c0 k2
        have u1 : (-1 : Int32).toInt = -1 := by decide
        have u2 : (0 : Int32).toInt = 0 := by decide
        omega
      rw [if_pos c0, if_pos (by decide), if_neg (Int32.not_le.mpr c0)]
      exact hq _ _ ⟨by rw [e0, if_pos ez]; rfl, (Sm_hi f1).tr T0_fr, hJ1.th hw, by rw [q_I_eq, e0, if_pos ez]; rfl⟩
    · have ez : ¬ z = -1 := fun h => c0 (by rw [h]; decide)
      rw [if_neg c0, if_pos (Int32.not_lt.mp c0)]
      rw [if_neg ez] at e0
      cases eo : (rfd (rst D P f e) z 4).2 with
      | none =>
        rw [eo] at e0
        rw [show oI none = -1 from rfl, if_pos (show (-1 : Int32) < 0 by decide), if_neg (show ¬ (1 : Int32) ≤ 0 by decide)]
        exact hq _ _ ⟨by rw [e0]; rfl, (Sm_hi f1).tr T0_fr, hJ1.th hw, by rw [q_I_eq, e0]; rfl⟩
      | some c =>
        rw [eo] at e0
        have hc := (rfd_lt eo).1
        rw [show oI (some c) = nI c from rfl, if_neg (nI_pos (by omega)), if_pos (show (0 : Int32) ≤ 0 by decide)]
        exact hq _ _ ⟨by rw [e0]; rfl, (Sm_hi f1).tr T0_fr, hJ1.th hw, by rw [q_I_eq, e0]; rfl⟩
  · have hs1 := f1.sh hs
    have hJ1 := hJ.sm hw f1
    obtain ⟨_, _, c3, c4⟩ := c4_a hi
    refine v_M_rests_40 hs1 ⟨fun c => ge_not (b := 4) c hi (by decide), fun _ => ⟨fun c => absurd c (by decide), fun _ => ?_⟩⟩
    rw [c4, c3]
    refine M_gets_ok (d := d + 6) hs1 hw.1 hw.2.1 hJ1.1 a1 a2 (fun σ2 f2 => ⟨f2.sh hs1, _, rfl, ?_⟩)
    have f12 := f1.tr f2
    refine M_gets_ok (d := d + 6) (f12.sh hs) hw.1 hw.2.1 (hJ.sm hw f12).1 a1 a2 (fun σ3 f3 => ⟨f3.sh (f12.sh hs), _, rfl, fun c => ?_, fun c => ?_⟩)
    · have hb : rst D P f e i = false := by rw [rst]; simp [c]
      have e1 : rfd (rst D P f e) z (i + 1) = rfd (rst D P f e) z i := by rw [rfd, hb]; rfl
      rw [e1] at ih
      rw [nI_1, Int32.add_zero]
      exact ih σ3 (f12.tr f3)
    · have f13 := f12.tr f3
      refine M_gets_ok (d := d + 6) (f13.sh hs) hw.1 hw.2.1 (hJ.sm hw f13).1 a2 a1 (fun σ4 f4 => ⟨f4.sh (f13.sh hs), _, rfl, ?_⟩)
      have f14 := f13.tr f4
      refine M_gets_ok (d := d + 6) (f14.sh hs) hw.1 hw.2.1 (hJ.sm hw f14).1 a2 a1 (fun σ5 f5 => ⟨f5.sh (f14.sh hs), _, rfl, ?_⟩)
      dsimp only
      by_cases c2 : hedg D P e f (nI (i % 2)) (nI (i / 2)) < hedg D P e f (1 - nI (i % 2)) (nI (i / 2))
      · have hb : rst D P f e i = false := by rw [rst]; simp [c2]
        have e1 : rfd (rst D P f e) z (i + 1) = rfd (rst D P f e) z i := by rw [rfd, hb]; rfl
        rw [e1] at ih
        rw [if_pos c2, if_pos rfl, if_pos rfl, nI_1, Int32.add_zero]
        exact ih σ5 (f14.tr f5)
      · have hb : rst D P f e i = true := by rw [rst]; simp [c, c2]
        have h4 := rfd_le (b := rst D P f e) (z := z) i
        have e1 : (rfd (rst D P f e) z (i + 1)).1 = (rfd (rst D P f e) z i).1 + 1 := by rw [rfd, hb, if_pos rfl]
        have e2 : oI (rfd (rst D P f e) z (i + 1)).2 = if nI (rfd (rst D P f e) z i).1 = z then nI i else oI (rfd (rst D P f e) z i).2 := by
          rw [rfd, hb, if_pos rfl]
          cases eo : (rfd (rst D P f e) z i).2 with
          | none =>
            dsimp only
            split <;> rfl
          | some c' =>
            obtain ⟨_, n, g1, g2⟩ := rfd_lt eo
            have hne : ¬ nI (rfd (rst D P f e) z i).1 = z := fun h => by have := (nI_eq (by omega) (by omega)).mp (h.trans g2); omega
            simp only [if_neg hne]
        rw [e1, e2] at ih
        rw [if_neg c2, if_neg (by decide), if_neg (by decide), nI_1, nI_1]
        exact ih σ5 (f14.tr f5)
end MTHR
