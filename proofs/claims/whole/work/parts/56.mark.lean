def a_mark (mk : Nat → Option (q_lf × q_tl)) (x z : Int32) : Int32 := if x < 0 then 0 else if 4 ≤ x then 0 else if z = 0 then 1 else if (mk x.toNatClampNeg).isSome then 1 else 0
def mkU (mk : Nat → Option (q_lf × q_tl)) (m : Nat) (v : q_lf × q_tl) : Nat → Option (q_lf × q_tl) := fun k => if k = m then some v else mk k
section MARK
variable {G : q_G} {d : Nat} {σ σ' : q_S} {Q : Option Value → q_S → Prop} {t p : Nat} {D : Nat → Nat} {P : Nat → List Int32} {N : q_nm} {hm : Nat → Nat} {L L' : Nat → Int32} {un un' : List q_lf} {mk mk' : Nat → Option (q_lf × q_tl)} {tl tl' : q_tl} {dy : q_dy} {tp : List Nat} {x y z c : Int32}
theorem Tl_become_ok {a b : Nat} (ha : q_isTl a) (hb : q_isTl b) (hne : a ≠ b) (hs : q_Sh σ) (hT : CTl σ b tl) (hq : ∀ σ', Fr (fun c _ => c = a) (fun c _ => c = a) σ σ' → CTl σ' a tl → Q none σ') : q_Call G d 0 0 X_Tl_become [.ref a, .ref b] σ Q := by
  refine q_cv0 (P := fun σ' => Fr (fun c _ => c = a) (fun c _ => c = a) σ σ' ∧ CTl σ' a tl) (by decide +kernel) (Nat.le_of_ble_eq_true rfl) (fun Q hq => ?_) (fun σ' h => hq σ' h.1 h.2)
  refine v_Tl_become_0 ha hb hs (hq _ ⟨Fr.tr (Fr.tr (Fr.setL rfl) (Fr.setL rfl)) (Fr.setI rfl), ?_, ?_, ?_⟩)
  · rw [q_L_setI, q_L_ne (by omega), q_L_eq]; exact hT.1
  · rw [q_L_setI, q_L_eq, q_L_ne (by omega)]; exact hT.2.1
  · rw [q_I_eq, q_I_setL, q_I_setL]; exact hT.2.2
theorem isTl_cases {a : Nat} (h : q_isTl a) : a = 14 ∨ a = 143 ∨ a = 148 ∨ a = 153 ∨ a = 158 := (by decide : ∀ a ∈ q_lTl, a = 14 ∨ a = 143 ∨ a = 148 ∨ a = 153 ∨ a = 158) a h
theorem CL.keepF {v : Nat} {SI SL : Nat → Nat → Prop} (h : CL σ v L) (hf : Fr SI SL σ σ') (h1 : ∀ a i, SI a i → ¬ (v ≤ a ∧ a ≤ v + 3)) : CL σ' v L := h.keep (fun a i b1 b2 => hf.2.2.1 _ _ (fun z => h1 a i z ⟨b1, b2⟩))
theorem W_mark_ok (hs : q_Sh σ) (hw : WJ D P N hm L un mk tl dy tp) (hJ : CJ σ t p D P N L un mk tl dy tp) (hq0 : a_mark mk x z = 0 → Q (some (.int 0)) σ) (hq1 : ¬ a_mark mk x z = 0 → z = 0 → ∀ σ', Fr lo_ lo_ σ σ' → CJ σ' t p D P N L un (mkU mk x.toNatClampNeg ((hm, L), tl)) tl dy tp → Q (some (.int 1)) σ') (hq2 : ¬ a_mark mk x z = 0 → ¬ z = 0 → ∀ v, mk x.toNatClampNeg = some v → ∀ σ', Fr lo_ lo_ σ σ' → CJ σ' t p D P N v.1.2 [] mk v.2 dy tp → Q (some (.int 1)) σ') : q_Call G (d + 2) 0 0 X_W_mark [.ref 0, .int x, .int z] σ Q := by
  refine q_enter (by decide +kernel) (Nat.le_of_ble_eq_true rfl) ?_
  refine v_W_mark_0 hs ⟨fun k => ⟨q_no_i, hq0 (by rw [a_mark, if_pos k])⟩, fun k => ⟨fun k2 => ⟨q_no_i, hq0 (by rw [a_mark, if_neg k, if_pos k2])⟩, fun k2 => ?_⟩⟩
  obtain ⟨m, h1, rfl⟩ := nI_of k
  have hm4 : m < 4 := Nat.lt_of_not_le (fun h => k2 (nI_le (a := 4) h h1))
  have em : a_mark mk (nI m) z = if z = 0 then 1 else if (mk m).isSome then 1 else 0 := by rw [a_mark, if_neg k, if_neg k2, nI_clamp h1]
  rw [nI_clamp h1] at hq1 hq2
  rw [em] at hq0 hq1 hq2
  obtain ⟨b1, b2⟩ := hJ.1.2.2.2.2.2.2.1 m hm4
  have jt := hJ.1.2.2.2.2.2.2.2.1
  refine ⟨fun z0 => ⟨fun _ => ⟨m, rfl, hm4, ?_⟩, fun c => absurd z0 c⟩, fun z0 => ⟨m, rfl, hm4, fun k3 => ⟨fun c => absurd c z0, fun _ => ⟨m, rfl, hm4, ?_⟩⟩, fun k3 => ⟨q_no_i, hq0 ?_⟩⟩⟩
  · rw [if_pos z0] at hq1
    refine Li_become_ok (d := d) (isLi_mark hm4) isLi_15 (by omega) hs hJ.1.2.2.2.2.1 (fun σ1 f1 g1 => ⟨f1.sh hs, rfl, m, rfl, hm4, ?_⟩)
    refine Tl_become_ok (isTl_mark hm4) isTl_14 (by omega) (f1.sh hs) (jt.keep (fun i => f1.2.2.2 _ _ (fun z => z)) (fun i => f1.2.2.1 _ _ (fun z => by unfold SLi at z; omega))) (fun σ2 f2 g2 => ⟨f2.sh (f1.sh hs), rfl, m, rfl, hm4, q_no_i, ?_⟩)
    have f3 : Fr (fun a i => (139 + 5 * m ≤ a ∧ a ≤ 143 + 5 * m) ∨ (a = 26 ∧ i = m)) (fun a _ => a = 143 + 5 * m) σ (q_setI σ2 26 m (vp_nar .boolean 1)) := (f1.mono (fun a i z => by unfold SLi at z; omega) (fun _ _ z => z.elim)).tr ((f2.mono (fun a i z => by omega) (fun _ _ z => z)).tr (Fr.setI (Or.inr ⟨rfl, rfl⟩)))
    have f4 : Fr lfA lfA σ (q_setI σ2 26 m (vp_nar .boolean 1)) := f3.mono (fun a i z => by unfold lfA; omega) (fun a i z => by unfold lfA; omega)
    refine hq1 (by decide) z0 _ (lfA_L f4) (hJ.upd f4 (hJ.1.2.2.2.2.1.keepF f3 (fun a i z => by omega)) (hJ.1.2.2.2.2.2.1.keep hw.2.2.2.2.2.1.1 (fun a i b => f3.2.2.1 _ _ (by omega))) (fun k hk => ?_) (jt.keep (fun i => f3.2.2.2 _ _ (by omega)) (fun i => f3.2.2.1 _ _ (by omega))))
    by_cases ck : k = m
    · subst ck
      refine ⟨fun h => by simp [mkU] at h, fun v hv => ?_⟩
      have hv2 : ((hm, L), tl) = v := by simpa [mkU] using hv
      subst hv2
      refine ⟨by rw [q_I_eq]; rfl, ?_, ?_⟩
      · exact g1.keep (fun a i b1 b2 => by rw [q_I_ne (by omega)]; exact f2.2.2.1 _ _ (by omega))
      · exact g2.keep (fun i => rfl) (fun i => q_I_ne (by omega))
    · obtain ⟨c1, c2⟩ := hJ.1.2.2.2.2.2.2.1 k hk
      unfold mkU
      rw [if_neg ck, f3.2.2.1 26 k (by omega)]
      exact ⟨c1, fun v hv => ⟨(c2 v hv).1, (c2 v hv).2.1.keepF f3 (fun a i z => by omega), (c2 v hv).2.2.keep (fun i => f3.2.2.2 _ _ (by omega)) (fun i => f3.2.2.1 _ _ (by omega))⟩⟩
  · rw [if_neg z0] at hq2
    cases hv : mk m with
    | none => rw [b1 hv] at k3; exact absurd rfl k3
    | some v =>
      rw [hv] at hq2
      obtain ⟨v1, v2, v3⟩ := b2 v hv
      refine Li_become_ok (d := d) isLi_15 (isLi_mark hm4) (by omega) hs v2 (fun σ1 f1 g1 => ⟨f1.sh hs, rfl, m, rfl, hm4, ?_⟩)
      refine Tl_become_ok isTl_14 (isTl_mark hm4) (by omega) (f1.sh hs) (v3.keep (fun i => f1.2.2.2 _ _ (fun z => z)) (fun i => f1.2.2.1 _ _ (fun z => by unfold SLi at z; omega))) (fun σ2 f2 g2 => ⟨f2.sh (f1.sh hs), rfl, q_no_i, ?_⟩)
      have f3 : Fr (fun a i => (14 ≤ a ∧ a ≤ 18) ∨ (a = 0 ∧ i = 17)) (fun a _ => a = 14) σ (q_setI σ2 0 17 0) := (f1.mono (fun a i z => by unfold SLi at z; omega) (fun _ _ z => z.elim)).tr ((f2.mono (fun a i z => by omega) (fun _ _ z => z)).tr (Fr.setI (Or.inr ⟨rfl, rfl⟩)))
      have f4 : Fr lfA lfA σ (q_setI σ2 0 17 0) := f3.mono (fun a i z => by unfold lfA; omega) (fun a i z => by unfold lfA; omega)
      obtain ⟨e, e1, e2, e3, e4⟩ := hJ.1.2.2.2.2.2.1
      refine hq2 (by simp) z0 v rfl _ (lfA_L f4) (hJ.upd f4 ?_ ⟨e, e1, by rw [f3.2.2.1 _ _ (by omega)]; exact e2, q_I_eq, fun i u hu => absurd hu (by simp)⟩ (hJ.1.2.2.2.2.2.2.1.keep (fun a i b => f3.2.2.1 _ _ (by omega)) (fun a i b1 b2 => f3.2.2.2 _ _ (by omega))) ?_)
      · exact g1.keep (fun a i b1 b2 => by rw [q_I_ne (by omega)]; exact f2.2.2.1 _ _ (by omega))
      · exact g2.keep (fun i => rfl) (fun i => q_I_ne (by omega))
  · cases hv : mk m with
    | none => rw [if_neg z0]; rfl
    | some v => rw [(b2 v hv).1] at k3; exact absurd k3 (by decide)
theorem M_mark_ok (hs : q_Sh σ) (hw : WJ D P N hm L un mk tl dy tp) (hJ : MJ σ D P N L un mk tl dy tp) (hq0 : a_mark mk x z = 0 → Q (some (.int 0)) (Th σ)) (hq1 : ¬ a_mark mk x z = 0 → z = 0 → ∀ σ', Fr hi_ hi_ σ σ' → MJ σ' D P N L un (mkU mk x.toNatClampNeg ((hm, L), tl)) tl dy tp → Q (some (.int 1)) σ') (hq2 : ¬ a_mark mk x z = 0 → ¬ z = 0 → ∀ v, mk x.toNatClampNeg = some v → ∀ σ', Fr hi_ hi_ σ σ' → MJ σ' D P N v.1.2 [] mk v.2 dy tp → Q (some (.int 1)) σ') : q_Call G (d + 1) 0 0 X_M_mark [.ref 159, .int x, .int z] σ Q := by
  refine q_enter (by decide +kernel) (Nat.le_of_ble_eq_true rfl) ?_
  have hs1 : q_Sh (Th σ) := Th_fr.sh hs
  have hJ1 : MJ (Th σ) D P N L un mk tl dy tp := hJ.th hw
  have hTl := hw.2.2.2.2.2.2.2.1.1
  refine v_M_mark_0 hs (M_within_ok hs1 ⟨hs1, _, rfl, fun kk => ⟨q_no_i, hq0 ?_⟩, fun kk => ?_⟩)
  · unfold inN at kk
    rw [a_mark]
    by_cases c1 : x < 0
    · rw [if_pos c1]
    · rw [if_neg c1] at kk ⊢
      by_cases c2 : (3 : Int32) < x
      · obtain ⟨n, hn, rfl⟩ := nI_of c1
        rw [show (3 : Int32) = nI 3 from rfl, nI_ltI (by decide) hn] at c2
        rw [if_pos (show (4 : Int32) ≤ nI n from nI_le (a := 4) c2 hn)]
      · rw [if_neg c2] at kk; exact absurd kk (by decide)
  obtain ⟨m, h1, h2, rfl⟩ := inN_s (lo := 0) (hi := 3) (by decide) (by decide) kk
  have em : a_mark mk (nI m) z = if z = 0 then 1 else if (mk m).isSome then 1 else 0 := by rw [a_mark, if_neg (nI_pos (by omega)), if_neg (show ¬ (4 : Int32) ≤ nI m from nI_ge (b := 4) (by omega) (by decide)), nI_clamp (by omega)]
  rw [nI_clamp (by omega)] at hq1 hq2
  rw [em] at hq0 hq1 hq2
  obtain ⟨b1, b2⟩ := hJ1.2.2.2.2.1 m (by omega)
  have e1 : (82 : Int32) * (1 + nI m) = nI (82 * (1 + m)) := by rw [q_lit 1, q_lit 82, nI_add, pk_mul]
  refine ⟨fun z0 => ⟨m, rfl, by omega, ?_⟩, fun z0 => ⟨m, rfl, by omega, fun k3 => ⟨m, rfl, by omega, ?_⟩, fun k3 => ⟨q_no_i, hq0 ?_⟩⟩⟩
  · rw [if_pos z0] at hq1
    rw [if_pos z0, if_pos z0, e1]
    refine M_copies_ok (b := 0) (b' := 82 * (1 + m)) (n := 82) hs1 (by omega) (by omega) (by omega) (fun σ2 f2 g2 => ⟨f2.sh hs1, rfl, q_no_i, ?_⟩)
    rw [if_pos z0]
    have f3 : Fr (fun a i => (a = 176 ∧ i = m) ∨ (a = 175 ∧ 82 * (1 + m) ≤ i ∧ i < 82 * (1 + m) + 82)) noL (q_setI (Th σ) 176 m (vp_nar .boolean 1)) σ2 := f2.mono (fun a i z => by unfold SMr at z; omega) (fun _ _ z => z)
    have f5 : Fr (fun a i => (a = 176 ∧ i = m) ∨ (a = 175 ∧ 82 * (1 + m) ≤ i ∧ i < 82 * (1 + m) + 82)) noL (Th σ) σ2 := (Fr.setI (Or.inl ⟨rfl, rfl⟩)).tr f3
    have f6 : Fr (fun a i => (a = 176 ∧ i = m) ∨ (a = 175 ∧ 82 * (1 + m) ≤ i ∧ i < 82 * (1 + m) + 82)) noL (Th σ) (q_setI σ2 159 25 (q_I σ2 159 25)) := ⟨f5.1, f5.2.1, fun a i z => by
      by_cases c : a = 159 ∧ i = 25
      · obtain ⟨rfl, rfl⟩ := c
        rw [q_I_eq]; exact f5.2.2.1 _ _ z
      · rw [q_I_ne c]; exact f5.2.2.1 _ _ z, f5.2.2.2⟩
    have f4 : Fr lfM lfM (Th σ) (q_setI σ2 159 25 (q_I σ2 159 25)) := f6.mono (fun a i z => by unfold lfM; omega) (fun _ _ z => z.elim)
    refine hq1 (by decide) z0 _ (Th_fr.tr (lfM_H f4)) (hJ1.upd hw f4 (hJ1.2.2.1.keep (fun i b1 b2 => f6.2.2.1 _ _ (by omega))) (hJ1.2.2.2.1.keep hw.2.2.2.2.2.1.1 (f6.2.2.1 _ _ (by omega)) (fun i b1 b2 => f6.2.2.1 _ _ (by omega))) (fun k hk => ?_) (hJ1.2.2.2.2.2.1.keep hTl (fun i b1 b2 => f6.2.2.1 _ _ (by omega))))
    by_cases ck : k = m
    · subst ck
      refine ⟨fun h => by simp [mkU] at h, fun v hv => ?_⟩
      have hv2 : ((hm, L), tl) = v := by simpa [mkU] using hv
      subst hv2
      have g3 : ∀ i, i < 82 → q_I (q_setI σ2 159 25 (q_I σ2 159 25)) 175 (82 * (1 + k) + i) = q_I (Th σ) 175 i := fun i hi => by
        rw [q_I_ne (by omega), g2 i hi, Nat.zero_add, q_I_ne (by omega)]
      refine ⟨by rw [q_I_ne (by omega), f2.2.2.1 _ _ (by unfold SMr; omega), q_I_eq]; rfl, fun i hi => ?_, ?_, fun j w hj => ?_⟩
      · rw [g3 i (by omega)]
        have := hJ1.2.2.1 i hi
        rwa [Nat.zero_add] at this
      · rw [g3 50 (by omega)]; exact hJ1.2.2.2.2.2.1.1
      · have hjl : j < tl.length := (List.getElem?_eq_some_iff.mp hj).1
        have := hJ1.2.2.2.2.2.1.2 j w hj
        rw [Nat.zero_add, Nat.zero_add, Nat.zero_add] at this
        rw [g3 _ (by omega), g3 _ (by omega), g3 _ (by omega)]
        exact this
    · obtain ⟨c1, c2⟩ := hJ1.2.2.2.2.1 k hk
      unfold mkU
      rw [if_neg ck, f6.2.2.1 176 k (by omega)]
      exact ⟨c1, fun v hv => ⟨(c2 v hv).1, (c2 v hv).2.1.keep (fun i b1 b2 => f6.2.2.1 _ _ (by omega)), (c2 v hv).2.2.keep (hw.2.2.2.2.2.2.1 k hk v hv).2.1 (fun i b1 b2 => f6.2.2.1 _ _ (by omega))⟩⟩
  · rw [if_neg z0] at hq2
    rw [if_neg z0, if_neg z0, e1]
    cases hv : mk m with
    | none => rw [b1 hv] at k3; exact absurd rfl k3
    | some v =>
      rw [hv] at hq2
      obtain ⟨v1, v2, v3⟩ := b2 v hv
      refine M_copies_ok (b := 82 * (1 + m)) (b' := 0) (n := 82) hs1 (by omega) (by omega) (by omega) (fun σ2 f2 g2 => ⟨f2.sh hs1, rfl, q_no_i, ?_⟩)
      rw [if_neg z0]
      have f3 : Fr (fun a i => (a = 176 ∧ i = m) ∨ (a = 175 ∧ i < 82) ∨ (a = 159 ∧ i = 25)) noL (Th σ) (q_setI σ2 159 25 0) := (Fr.setI (Or.inl ⟨rfl, rfl⟩)).tr ((f2.mono (fun a i z => by unfold SMr at z; omega) (fun _ _ z => z)).tr (Fr.setI (Or.inr (Or.inr ⟨rfl, rfl⟩))))
      have f4 : Fr lfM lfM (Th σ) (q_setI σ2 159 25 0) := f3.mono (fun a i z => by unfold lfM; omega) (fun _ _ z => z.elim)
      have g3 : ∀ i, i < 82 → q_I (q_setI σ2 159 25 0) 175 (0 + i) = q_I (Th σ) 175 (82 * (1 + m) + i) := fun i hi => by
        rw [q_I_ne (by omega), g2 i hi, q_I_ne (by omega)]
      refine hq2 (by simp) z0 v rfl _ (Th_fr.tr (lfM_H f4)) (hJ1.upd hw f4 (fun i hi => ?_) ⟨q_I_eq, fun i u hu => absurd hu (by simp)⟩ (fun k hk => ?_) ⟨?_, fun j w hj => ?_⟩)
      · rw [g3 i (by omega)]; exact v2 i hi
      · by_cases ck : k = m
        · subst ck
          have e5 : q_I (q_setI σ2 159 25 0) 176 k = 1 := by rw [q_I_ne (by omega), f2.2.2.1 _ _ (by unfold SMr; omega), q_I_eq]; rfl
          refine ⟨fun h => by rw [hv] at h; exact absurd h (by simp), fun u hu => ?_⟩
          rw [hv] at hu
          have hu := Option.some.inj hu
          subst hu
          exact ⟨e5, v2.keep (fun i b1 b2 => f3.2.2.1 _ _ (by omega)), v3.keep (hw.2.2.2.2.2.2.1 k hk v hv).2.1 (fun i b1 b2 => f3.2.2.1 _ _ (by omega))⟩
        · obtain ⟨c1, c2⟩ := hJ1.2.2.2.2.1 k hk
          rw [f3.2.2.1 176 k (by omega)]
          exact ⟨c1, fun v hv => ⟨(c2 v hv).1, (c2 v hv).2.1.keep (fun i b1 b2 => f3.2.2.1 _ _ (by omega)), (c2 v hv).2.2.keep (hw.2.2.2.2.2.2.1 k hk v hv).2.1 (fun i b1 b2 => f3.2.2.1 _ _ (by omega))⟩⟩
      · rw [g3 50 (by omega)]; exact v3.1
      · have hjl := (List.getElem?_eq_some_iff.mp hj).1
        have hvl := (hw.2.2.2.2.2.2.1 m (by omega) v hv).2.1
        have := v3.2 j w hj
        rw [g3 _ (by omega), g3 _ (by omega), g3 _ (by omega)]
        exact this
  · cases hv : mk m with
    | none => rw [if_neg z0]; rfl
    | some v => rw [(b2 v hv).1] at k3; exact absurd k3 (by decide)
theorem W_count_ok (hs : q_Sh σ) (hw : WJ D P N hm L un mk tl dy tp) (hJ : CJ0 σ t p D P N L un mk tl dy tp) (hq : Q (some (.int (a_count D L un tl dy tp x.toInt))) σ) : q_Call G (d + 1) 0 0 X_W_count [.ref 0, .int x] σ Q := by
  have h6 := hw.1.F6
  refine q_ci (by decide +kernel) (Nat.le_of_ble_eq_true rfl) (fun Q hq => ?_) hq
  have hs0 : ∀ v, v = a_count D L un tl dy tp x.toInt → Q (some (.int v)) σ := fun v e => by rw [e]; exact hq
  have hT := hJ.2.2.1.1.1
  have jl := hJ.2.2.2.2.1
  have e7 : bx_sum (q_I σ 17) 6 = bx_sum (fun i => L (6 + i)) (D 1) := by
    rw [bx_sum_cong (g := fun i => L (6 + i)) (fun k hk => jl.coin (v := 15) hk), show 6 = D 1 + (6 - D 1) by omega]
    exact bx_sum_more _ (fun k h1 h2 => by
      have := hw.2.2.2.2.1.2.2 k (by omega) h1
      rw [show D 1 + (6 - D 1) = 6 by omega]
      exact this)
  have e8 : bx_sum (q_I σ 18) 36 = bx_sum (fun i => L (12 + i)) 36 := bx_sum_cong (fun k hk => jl.debt (v := 15) hk)
  obtain ⟨e, a1, a2, a3, a4⟩ := hJ.2.2.2.2.2.1
  refine v_W_count_0 hs ⟨fun k => hs0 _ ?_, fun k => ⟨t, hJ.1.1, hJ.1.2.1, hs0 _ ?_⟩, fun k => ⟨t, hJ.1.1, hJ.1.2.1, hs0 _ ?_⟩, fun k => ⟨t, hJ.1.1, hJ.1.2.1, hs0 _ ?_⟩, fun k => ⟨t, hJ.1.1, hJ.1.2.1, hs0 _ ?_⟩, fun k => ⟨t, hJ.1.1, hJ.1.2.1, hs0 _ ?_⟩, fun k => hs0 _ ?_, fun k => hs0 _ ?_, fun k => W_sum_ok (n := 6) (by decide +kernel) (by decide) hs ⟨hs, _, rfl, hs0 _ ?_⟩, fun k => W_sum_ok (n := 36) (by decide +kernel) (by decide) hs ⟨hs, _, rfl, hs0 _ ?_⟩, fun k => ⟨p, hJ.2.1.1, hJ.2.1.2.1, hs0 _ ?_⟩, fun k => hs0 _ ?_, fun k => hs0 _ ?_, fun k => hs0 _ ?_⟩
  · unfold a_count
    rw [if_neg (by omega), if_neg (by omega), if_neg (by omega), if_neg (by omega), if_neg (by omega), if_neg (by omega), if_neg (by omega), if_neg (by omega), if_neg (by omega), if_neg (by omega), if_neg (by omega), if_neg (by omega), if_neg (by omega)]
  · rw [k]; exact hT.1
  · rw [k]; exact hT.2.1
  · rw [k]; exact hT.2.2.1
  · rw [k]; exact hT.2.2.2.1
  · rw [k]; exact hT.2.2.2.2
  · rw [k]; exact jl.dr
  · rw [k]; exact jl.lp
  · rw [k]; exact e7
  · rw [k]; exact e8
  · rw [k]; exact hJ.2.2.2.2.2.2.2.2.1.1
  · rw [k]; exact hJ.2.2.2.2.2.2.2.1.2.2
  · rw [k]; exact a3
  · rw [k]; exact hJ.2.2.2.2.2.2.2.2.2.1
theorem M_count_ok (hs : q_Sh σ) (hw : WJ D P N hm L un mk tl dy tp) (hJ : MJ σ D P N L un mk tl dy tp) (hq : Q (some (.int (a_count D L un tl dy tp x.toInt))) (Th σ)) : q_Call G (d + 2) 0 0 X_M_count [.ref 159, .int x] σ Q := by
  have h6 := hw.1.F6
  have hs1 : q_Sh (Th σ) := Th_fr.sh hs
  have hJ1 : MJ (Th σ) D P N L un mk tl dy tp := hJ.th hw
  refine q_cii (Pp := fun v σ' => v = a_count D L un tl dy tp x.toInt ∧ σ' = Th σ) (by decide +kernel) (Nat.le_of_ble_eq_true rfl) (fun Q hq => ?_) (fun v σ' h => by rw [h.1, h.2]; exact hq)
  have hs0 : ∀ v, v = a_count D L un tl dy tp x.toInt → Q (some (.int v)) (Th σ) := fun v e => hq _ _ ⟨e, rfl⟩
  have hT := hJ1.1.1.1
  have jl : ∀ i, i < 50 → q_I (Th σ) 175 i = L i := fun i hi => by have := hJ1.2.2.1 i hi; rwa [Nat.zero_add] at this
  have ex : ∀ n : Nat, n < 100 → x.toInt = (n : Int) → x = nI n := fun n hn h => Int32.toInt_inj.mp (by rw [h, nI_toInt (by omega)])
  refine v_M_count_0 hs ⟨fun k => hs0 _ ?_, fun k => hs0 _ ?_, fun k => hs0 _ ?_, fun k => ⟨2, ex 2 (by decide) k, by decide, hs0 _ ?_⟩, fun k => ⟨3, ex 3 (by decide) k, by decide, hs0 _ ?_⟩, fun k => ⟨4, ex 4 (by decide) k, by decide, hs0 _ ?_⟩, fun k => hs0 _ ?_, fun k => hs0 _ ?_, fun k => ?_, fun k => ?_, fun k => hs0 _ ?_, fun k => hs0 _ ?_, fun k => hs0 _ ?_, fun k => hs0 _ ?_⟩
  · unfold a_count
    rw [if_neg (by omega), if_neg (by omega), if_neg (by omega), if_neg (by omega), if_neg (by omega), if_neg (by omega), if_neg (by omega), if_neg (by omega), if_neg (by omega), if_neg (by omega), if_neg (by omega), if_neg (by omega), if_neg (by omega)]
  · rw [k]; exact hT 0 (by decide) (by decide)
  · rw [k]; exact hT 1 (by decide) (by decide)
  · rw [k]; exact hT 2 (by decide) (by decide)
  · rw [k]; exact hT 3 (by decide) (by decide)
  · rw [k]; exact hT 4 (by decide) (by decide)
  · rw [k]; exact jl 48 (by decide)
  · rw [k]; exact jl 49 (by decide)
  · refine q_ci (v := bx_sum (fun i => L (6 + i)) (D 1)) (by decide +kernel) (Nat.le_of_ble_eq_true rfl) (fun Q2 hq2 => ?_) ⟨hs1, _, rfl, hs0 _ (by rw [k]; rfl)⟩
    refine v_M_coinsOfAll_0 hs1 ?_
    refine up_ind (R := fun j => q_At G X_M_coinsOfAll (d + 1) 0 0 4 [some (.ref 159), some (.int (bx_sum (fun i => L (6 + i)) j)), some (.int (nI j))] [] (Th σ) Q2) (n := D 1) ?_ (fun j hj ih => ?_) 0 (Nat.zero_le _)
    · exact v_M_coinsOfAll_4 hs1 ⟨fun _ => hq2, fun c => absurd (by rw [hJ1.1.1.F]; exact Int32.le_refl _) c⟩
    · refine v_M_coinsOfAll_4 hs1 ⟨fun c => by rw [hJ1.1.1.F] at c; exact ge_not c hj (by omega), fun _ => ⟨6 + j, nI_add _ _, by omega, ?_⟩⟩
      rw [jl _ (by omega), nI_1]
      exact ih
  · refine q_ci (v := bx_sum (fun i => L (12 + i)) 36) (by decide +kernel) (Nat.le_of_ble_eq_true rfl) (fun Q2 hq2 => ?_) ⟨hs1, _, rfl, hs0 _ (by rw [k]; rfl)⟩
    refine v_M_debtsOfAll_0 hs1 ?_
    refine up_ind (R := fun j => q_At G X_M_debtsOfAll (d + 1) 0 0 4 [some (.ref 159), some (.int (bx_sum (fun i => L (12 + i)) j)), some (.int (nI j))] [] (Th σ) Q2) (n := 36) ?_ (fun j hj ih => ?_) 0 (Nat.zero_le _)
    · exact v_M_debtsOfAll_4 hs1 ⟨fun _ => hq2, fun c => absurd (by decide) c⟩
    · refine v_M_debtsOfAll_4 hs1 ⟨fun c => ge_not (b := 36) c hj (by decide), fun _ => ⟨12 + j, nI_add _ _, by omega, ?_⟩⟩
      rw [jl _ (by omega), nI_1]
      exact ih
  · rw [k]; exact hJ1.2.2.2.2.2.2.1.1
  · rw [k]; exact hJ1.2.2.2.2.2.1.1
  · rw [k]; exact hJ1.2.2.2.1.1
  · rw [k]; exact hJ1.2.2.2.2.2.2.2.1
end MARK
