section ACTS2
variable {G : q_G} {d : Nat} {σ σ' : q_S} {Q : Option Value → q_S → Prop} {t p : Nat} {D : Nat → Nat} {P : Nat → List Int32} {N : q_nm} {hm : Nat → Nat} {L L' : Nat → Int32} {un un' : List q_lf} {mk mk' : Nat → Option (q_lf × q_tl)} {tl tl' : q_tl} {dy : q_dy} {tp : List Nat} {x y c : Int32}
theorem W_undo_ok (hs : q_Sh σ) (hw : WJ D P N hm L un mk tl dy tp) (hJ : CJ σ t p D P N L un mk tl dy tp) (hq0 : un = [] → Q (some (.int 0)) σ) (hq1 : ∀ u v, un = u :: v → ∀ σ', Fr lo_ lo_ σ σ' → CJ σ' t p D P N u.2 v mk tl dy tp → Q (some (.int 1)) σ') : q_Call G (d + 2) 0 0 X_W_undo [.ref 0] σ Q := by
  obtain ⟨e, e1, e2, e3, e4⟩ := hJ.1.2.2.2.2.2.1
  have hl := hw.2.2.2.2.2.1.1
  refine q_enter (by decide +kernel) (Nat.le_of_ble_eq_true rfl) ?_
  cases un with
  | nil => exact v_W_undo_0 hs ⟨fun k => by rw [e3] at k; exact absurd k (by decide), fun _ => ⟨q_no_i, hq0 rfl⟩⟩
  | cons u v =>
    rw [List.length_cons] at e3 hl
    refine v_W_undo_0 hs ⟨fun _ => ?_, fun k => absurd (by rw [e3]; exact nI_le (a := 1) (by omega) (by omega)) k⟩
    have a1 : q_I σ 0 17 - 1 = nI v.length := by rw [e3, nI_pred]
    have a2 : ((nI e + 16) - 1) - ((nI e + 16) - 1) / 16 * 16 = nI ((e + 15) % 16) := by
      rw [q_lit 16, nI_add, show e + 16 = (e + 15) + 1 by omega, nI_pred]
      exact pk_rem (by omega) (by decide) (by decide)
    have a3 : q_I (q_setI σ 0 17 (nI v.length)) 0 16 = nI e := by rw [q_I_ne (by omega), e2]
    rw [a1, a3, a2, q_I_eq]
    refine ⟨(e + 15) % 16, rfl, Nat.mod_lt _ (by decide), ?_⟩
    have f1 : Fr lfA lfA σ (q_setI (q_setI σ 0 17 (nI v.length)) 0 16 (nI ((e + 15) % 16))) := Fr.tr (Fr.setI (Or.inl ⟨rfl, by decide⟩)) (Fr.setI (Or.inl ⟨rfl, by decide⟩))
    have h0 := e4 0 u rfl
    rw [Nat.sub_zero] at h0
    have hm16 : (e + 15) % 16 < 16 := Nat.mod_lt _ (by decide)
    refine Li_become_ok (d := d) isLi_15 (isLi_past hm16) (by omega) (f1.sh hs) (L := u.2) (h0.keep (fun a i b1 b2 => by rw [q_I_ne (by omega), q_I_ne (by omega)])) (fun σ2 f2 g2 => ⟨f2.sh (f1.sh hs), rfl, q_no_i, ?_⟩)
    have f3 : Fr lfA lfA σ σ2 := f1.tr (f2.mono (fun a i z => by unfold SLi at z; unfold lfA; omega) (fun _ _ z => z.elim))
    have k2 : ∀ a i, (a = 0 → i ≠ 16 ∧ i ≠ 17) → (a < 15 ∨ 18 < a) → q_I σ2 a i = q_I σ a i := fun a i h1 h2 => by
      rw [f2.2.2.1 _ _ (fun z => by unfold SLi at z; omega), q_I_ne (by omega), q_I_ne (by omega)]
    refine hq1 u v rfl σ2 (lfA_L f3) (hJ.upd f3 g2 ⟨(e + 15) % 16, hm16, ?_, ?_, fun i w hw => ?_⟩ (hJ.1.2.2.2.2.2.2.1.keep (fun a i b => k2 a i (by omega) (by omega)) (fun a i b1 b2 => f2.2.2.2 _ _ (fun z => z))) (hJ.1.2.2.2.2.2.2.2.1.keep (fun i => f2.2.2.2 _ _ (fun z => z)) (fun i => k2 _ _ (by omega) (by omega))))
    · rw [f2.2.2.1 _ _ (fun z => by unfold SLi at z; omega), q_I_eq]
    · rw [f2.2.2.1 _ _ (fun z => by unfold SLi at z; omega), q_I_ne (by omega), q_I_eq]
    · have := e4 (i + 1) w hw
      have hi : i < v.length := (List.getElem?_eq_some_iff.mp hw).1
      rw [show ((e + 15) % 16 + 15 - i) % 16 = (e + 15 - (i + 1)) % 16 by omega]
      exact this.keep (fun a j b1 b2 => k2 a j (by omega) (by omega))
theorem M_undo_ok (hs : q_Sh σ) (hw : WJ D P N hm L un mk tl dy tp) (hJ : MJ σ D P N L un mk tl dy tp) (hq0 : un = [] → Q (some (.int 0)) (Th σ)) (hq1 : ∀ u v, un = u :: v → ∀ σ', Fr hi_ hi_ σ σ' → MJ σ' D P N u.2 v mk tl dy tp → Q (some (.int 1)) σ') : q_Call G (d + 1) 0 0 X_M_undo [.ref 159] σ Q := by
  have hs1 : q_Sh (Th σ) := Th_fr.sh hs
  have hJ1 : MJ (Th σ) D P N L un mk tl dy tp := hJ.th hw
  have hl := hw.2.2.2.2.2.1.1
  refine q_enter (by decide +kernel) (Nat.le_of_ble_eq_true rfl) ?_
  have eU := hJ1.2.2.2.1.1
  cases un with
  | nil => exact v_M_undo_0 hs ⟨fun k => absurd eU k, fun _ => ⟨q_no_i, hq0 rfl⟩⟩
  | cons u v =>
    rw [List.length_cons] at eU hl
    refine v_M_undo_0 hs ⟨fun _ => ?_, fun k => by rw [eU] at k; exact absurd k (nI_ne0 (by omega) (by omega))⟩
    rw [eU, nI_pred, q_I_eq, show (82 : Int32) * (5 + nI v.length) = nI (82 * (5 + v.length)) by rw [q_lit 5, q_lit 82, nI_add, pk_mul]]
    have f1 : Fr lfM lfM σ (q_setI (Th σ) 159 25 (nI v.length)) := Fr.tr (Fr.setI (by unfold lfM; omega)) (Fr.setI (by unfold lfM; omega))
    refine M_copies_ok (b := 82 * (5 + v.length)) (b' := 0) (n := 50) (f1.sh hs) (by omega) (by omega) (by omega) (fun σ2 f2 g2 => ⟨f2.sh (f1.sh hs), rfl, q_no_i, ?_⟩)
    have f3 : Fr lfM lfM σ σ2 := f1.tr (f2.mono (fun a i z => by unfold SMr at z; unfold lfM; omega) (fun _ _ z => z.elim))
    have h0 := hJ1.2.2.2.1.2 0 u rfl
    rw [List.length_cons, show v.length + 1 - 1 - 0 = v.length by omega] at h0
    have k2 : ∀ a i, (a = 159 → i ≠ 0 ∧ i ≠ 25) → (a = 175 → 50 ≤ i) → q_I σ2 a i = q_I σ a i := fun a i h1 h2 => by
      rw [f2.2.2.1 _ _ (fun z => by unfold SMr at z; omega), q_I_ne (by omega), q_I_ne (by omega)]
    have k3 : ∀ a i, (a = 159 → i ≠ 0) → q_I (Th σ) a i = q_I σ a i := fun a i h1 => q_I_ne (by omega)
    refine hq1 u v rfl σ2 (lfM_H f3) (hJ.upd hw f3 (fun i hi => ?_) ⟨?_, fun i w hw2 => ?_⟩ (hJ.2.2.2.2.1.keep hw.2.2.2.2.2.2.1 (fun i => k2 _ _ (by omega) (by omega)) (fun i b1 b2 => k2 _ _ (by omega) (by omega))) ⟨?_, fun k z hz => ?_⟩)
    · rw [g2 i hi, q_I_ne (by omega)]
      exact h0 i hi
    · rw [f2.2.2.1 _ _ (fun z => by unfold SMr at z; omega), q_I_eq]
    · have h1 := hJ1.2.2.2.1.2 (i + 1) w hw2
      have hi : i < v.length := (List.getElem?_eq_some_iff.mp hw2).1
      rw [List.length_cons, show v.length + 1 - 1 - (i + 1) = v.length - 1 - i by omega] at h1
      exact h1.keep (fun j b1 b2 => by rw [k2 _ _ (by omega) (by omega), k3 _ _ (by omega)])
    · rw [k2 _ _ (by omega) (by omega)]; exact hJ.2.2.2.2.2.1.1
    · rw [k2 _ _ (by omega) (by omega), k2 _ _ (by omega) (by omega), k2 _ _ (by omega) (by omega)]; exact hJ.2.2.2.2.2.1.2 k z hz
def a_tale (D : Nat → Nat) (tl : q_tl) (x y : Int32) : Int32 := if twoN (D 1) x y = 0 then 0 else if tl.length < 10 then 1 else 0
theorem isTl_mark {k : Nat} (h : k < 4) : q_isTl (143 + 5 * k) := (by decide : ∀ k, k < 4 → (143 + 5 * k) ∈ q_lTl) k h
theorem Tl_add_ok {a : Nat} {m : Int64} {z : Int32} {f e : Nat} (ha : q_isTl a) (hs : q_Sh σ) (hm : m = pbit f e) (hT : CTl σ a tl) (hq : ∀ σ', Fr (fun b _ => b = a) (fun b _ => b = a) σ σ' → CTl σ' a (tl ++ [(f, e, decide (¬ z = 0))]) → Q none σ') : q_Call G d 0 0 X_Tl_add [.ref a, .long m, .int z] σ Q := by
  refine q_cv0 (P := fun σ' => Fr (fun b _ => b = a) (fun b _ => b = a) σ σ' ∧ CTl σ' a (tl ++ [(f, e, decide (¬ z = 0))])) (by decide +kernel) (Nat.le_of_ble_eq_true rfl) (fun Q hq => ?_) (fun σ' h => hq σ' h.1 h.2)
  refine v_Tl_add_0 ha hs ⟨fun c => hq _ ⟨Fr.tr (Fr.setL rfl) (Fr.setI rfl), ?_, ?_, ?_⟩, fun c => hq _ ⟨Fr.tr (Fr.setL rfl) (Fr.setI rfl), ?_, ?_, ?_⟩⟩
  · rw [q_L_setI, q_L_ne (by omega), hT.1, besM, besM, List.foldl_append]
    simp [c]
  · rw [q_L_setI, q_L_eq, hT.2.1, apM, apM, List.foldl_append, hm]
    simp [c]
  · rw [q_I_eq, q_I_setL, hT.2.2, nI_1, List.length_append]; rfl
  · rw [q_L_setI, q_L_eq, hT.1, besM, besM, List.foldl_append, hm]
    simp [c]
  · rw [q_L_setI, q_L_ne (by omega), hT.2.1, apM, apM, List.foldl_append]
    simp [c]
  · rw [q_I_eq, q_I_setL, hT.2.2, nI_1, List.length_append]; rfl
theorem W_tale_ok {z : Int32} (hs : q_Sh σ) (hw : WJ D P N hm L un mk tl dy tp) (hJ : CJ σ t p D P N L un mk tl dy tp) (hq0 : a_tale D tl x y = 0 → Q (some (.int 0)) σ) (hq1 : ¬ a_tale D tl x y = 0 → ∀ σ', Fr lo_ lo_ σ σ' → CJ σ' t p D P N L un mk (tl ++ [(x.toNatClampNeg, y.toNatClampNeg, decide (¬ z = 0))]) dy tp → Q (some (.int 1)) σ') : q_Call G (d + 2) 0 0 X_W_tale [.ref 0, .int x, .int y, .int z] σ Q := by
  have h6 := hw.1.F6
  have hl := hw.2.2.2.2.2.2.2.1.1
  refine q_enter (by decide +kernel) (Nat.le_of_ble_eq_true rfl) ?_
  have eT := hJ.1.2.2.2.2.2.2.2.1.2.2
  refine v_W_tale_0 hs (W_areTwo_ok hs hJ.1 ⟨hs, _, rfl, fun k => ⟨q_no_i, hq0 (by rw [a_tale, if_pos k])⟩, fun k => ⟨fun k2 => ?_, fun k2 => ⟨q_no_i, hq0 ?_⟩⟩⟩)
  · rw [eT, show (10 : Int32) = nI 10 from rfl, nI_ltI (by omega) (by decide)] at k2
    obtain ⟨f, e, a1, a2, a3, rfl, rfl⟩ := twoN_s (by omega) k
    have k3 : ¬ a_tale D tl (nI f) (nI e) = 0 := by rw [a_tale, if_neg k, if_pos k2]; decide
    replace hq1 := hq1 k3
    rw [nI_clamp (by omega), nI_clamp (by omega)] at hq1
    refine W_pairBit_ok (d := d) hs (by omega) (by omega) ⟨hs, _, rfl, Tl_add_ok isTl_14 hs rfl hJ.1.2.2.2.2.2.2.2.1 (fun σ2 f2 g2 => ⟨f2.sh hs, rfl, q_no_i, ?_⟩)⟩
    have f3 : Fr lfA lfA σ σ2 := f2.mono (fun a i z => by unfold lfA; omega) (fun a i z => by unfold lfA; omega)
    exact hq1 σ2 (lfA_L f3) (hJ.upd f3 (hJ.1.2.2.2.2.1.keep (fun a i b1 b2 => f2.2.2.1 _ _ (by omega))) (hJ.1.2.2.2.2.2.1.keep hw.2.2.2.2.2.1.1 (fun a i b => f2.2.2.1 _ _ (by omega))) (hJ.1.2.2.2.2.2.2.1.keep (fun a i b => f2.2.2.1 _ _ (by omega)) (fun a i b1 b2 => f2.2.2.2 _ _ (by omega))) g2)
  · rw [eT, show (10 : Int32) = nI 10 from rfl, nI_ltI (by omega) (by decide)] at k2
    rw [a_tale, if_neg k, if_neg k2]
theorem M_tale_ok {z : Int32} (hs : q_Sh σ) (hw : WJ D P N hm L un mk tl dy tp) (hJ : MJ σ D P N L un mk tl dy tp) (hq0 : a_tale D tl x y = 0 → Q (some (.int 0)) (Th σ)) (hq1 : ¬ a_tale D tl x y = 0 → ∀ σ', Fr hi_ hi_ σ σ' → MJ σ' D P N L un mk (tl ++ [(x.toNatClampNeg, y.toNatClampNeg, decide (¬ z = 0))]) dy tp → Q (some (.int 1)) σ') : q_Call G (d + 3) 0 0 X_M_tale [.ref 159, .int x, .int y, .int z] σ Q := by
  have h6 := hw.1.F6
  have hl := hw.2.2.2.2.2.2.2.1.1
  refine q_enter (by decide +kernel) (Nat.le_of_ble_eq_true rfl) ?_
  have hs1 : q_Sh (Th σ) := Th_fr.sh hs
  have hJ1 : MJ (Th σ) D P N L un mk tl dy tp := hJ.th hw
  have eT : q_I (Th σ) 175 50 = nI tl.length := hJ1.2.2.2.2.2.1.1
  refine v_M_tale_0 hs (M_areTwo_ok hs1 hJ1.1.1 ⟨hs1, _, rfl, fun k => ⟨q_no_i, hq0 (by rw [a_tale, if_pos k])⟩, fun k => ⟨fun k2 => ?_, fun k2 => ⟨q_no_i, hq0 ?_⟩⟩⟩)
  · rw [eT, show (10 : Int32) = nI 10 from rfl, nI_eq (by omega) (by decide)] at k2
    obtain ⟨f, e, a1, a2, a3, rfl, rfl⟩ := twoN_s (by omega) k
    have k3 : ¬ a_tale D tl (nI f) (nI e) = 0 := by rw [a_tale, if_neg k, if_pos (by omega)]; decide
    replace hq1 := hq1 k3
    rw [nI_clamp (by omega), nI_clamp (by omega)] at hq1
    have e1 : 51 + 3 * nI tl.length = nI (51 + 3 * tl.length) := by rw [q_lit 3, q_lit 51, pk_mul, nI_add]
    rw [eT, e1]
    refine ⟨51 + 3 * tl.length, rfl, by omega, 52 + 3 * tl.length, by rw [nI_1]; congr 1; omega, by omega, 53 + 3 * tl.length, by rw [q_lit 2, nI_add]; congr 1; omega, by omega, q_no_i, ?_⟩
    have e2 : q_I (q_setI (q_setI (q_setI (Th σ) 175 (51 + 3 * tl.length) (nI f)) 175 (52 + 3 * tl.length) (nI e)) 175 (53 + 3 * tl.length) (if z = 0 then (0 : Int32) else 1)) 175 50 + 1 = nI (tl.length + 1) := by rw [q_I_ne (by omega), q_I_ne (by omega), q_I_ne (by omega), eT, nI_1]
    rw [e2]
    have f3 : Fr (fun a i => a = 175 ∧ 50 ≤ i ∧ i < 82) noL (Th σ) (q_setI (q_setI (q_setI (q_setI (Th σ) 175 (51 + 3 * tl.length) (nI f)) 175 (52 + 3 * tl.length) (nI e)) 175 (53 + 3 * tl.length) (if z = 0 then (0 : Int32) else 1)) 175 50 (nI (tl.length + 1))) := Fr.tr (Fr.tr (Fr.tr (Fr.setI ⟨rfl, by omega, by omega⟩) (Fr.setI ⟨rfl, by omega, by omega⟩)) (Fr.setI ⟨rfl, by omega, by omega⟩)) (Fr.setI ⟨rfl, by omega, by omega⟩)
    have f4 := f3.mono (SI' := lfM) (SL' := lfM) (fun a i z => by unfold lfM; omega) (fun _ _ z => z.elim)
    refine hq1 _ (Th_fr.tr (lfM_H f4)) (hJ1.upd hw f4 (hJ1.2.2.1.keep (fun i b1 b2 => f3.2.2.1 _ _ (by omega))) (hJ1.2.2.2.1.keep hw.2.2.2.2.2.1.1 (f3.2.2.1 _ _ (by omega)) (fun i b1 b2 => f3.2.2.1 _ _ (by omega))) (hJ1.2.2.2.2.1.keep hw.2.2.2.2.2.2.1 (fun i => f3.2.2.1 _ _ (by omega)) (fun i b1 b2 => f3.2.2.1 _ _ (by omega))) ⟨?_, fun j w hj => ?_⟩)
    · rw [Nat.zero_add, q_I_eq, List.length_append]; rfl
    · rw [Nat.zero_add, Nat.zero_add, Nat.zero_add]
      by_cases c : j < tl.length
      · rw [List.getElem?_append_left c] at hj
        have := hJ1.2.2.2.2.2.1.2 j w hj
        rw [Nat.zero_add, Nat.zero_add, Nat.zero_add] at this
        refine ⟨?_, ?_, ?_⟩
        · rw [q_I_ne (by omega), q_I_ne (by omega), q_I_ne (by omega), q_I_ne (by omega)]; exact this.1
        · rw [q_I_ne (by omega), q_I_ne (by omega), q_I_ne (by omega), q_I_ne (by omega)]; exact this.2.1
        · rw [q_I_ne (by omega), q_I_ne (by omega), q_I_ne (by omega), q_I_ne (by omega)]; exact this.2.2
      · have hj2 : j = tl.length := by
          have := (List.getElem?_eq_some_iff.mp hj).1
          rw [List.length_append] at this
          simp only [List.length_cons, List.length_nil] at this
          omega
        subst hj2
        rw [List.getElem?_append_right (Nat.le_refl _), Nat.sub_self] at hj
        have hv : (f, e, decide (¬ z = 0)) = w := Option.some.inj hj
        subst hv
        refine ⟨?_, ?_, ?_⟩
        · rw [q_I_ne (by omega), q_I_ne (by omega), q_I_ne (by omega), q_I_eq]
        · rw [q_I_ne (by omega), q_I_ne (by omega), q_I_eq]
        · rw [q_I_ne (by omega), q_I_eq]
          by_cases c2 : z = 0
          · simp [c2]
          · simp [c2]
  · rw [eT, show (10 : Int32) = nI 10 from rfl, nI_eq (by omega) (by decide)] at k2
    rw [a_tale, if_neg k, if_neg (by omega)]
theorem WJ.tal (hw : WJ D P N hm L un mk tl dy tp) (h : ¬ a_tale D tl x y = 0) {b : Bool} : WJ D P N hm L un mk (tl ++ [(x.toNatClampNeg, y.toNatClampNeg, b)]) dy tp := by
  have h6 := hw.1.F6
  obtain ⟨w1, w2, w3, w4, w5, w6, w7, w8, w9⟩ := hw
  unfold a_tale at h
  by_cases c : twoN (D 1) x y = 0
  · rw [if_pos c] at h; exact absurd rfl h
  · rw [if_neg c] at h
    by_cases c2 : tl.length < 10
    · obtain ⟨f, e, a1, a2, a3, rfl, rfl⟩ := twoN_s (by omega) c
      rw [nI_clamp (by omega), nI_clamp (by omega)]
      refine ⟨w1, w2, w3, w4, w5, w6, w7, ⟨by rw [List.length_append]; simp only [List.length_cons, List.length_nil]; omega, fun z hz => ?_⟩, w9⟩
      rcases List.mem_append.mp hz with hz | hz
      · exact w8.2 z hz
      · rw [List.mem_singleton] at hz
        subst hz
        exact ⟨a1, a2, a3⟩
    · rw [if_neg c2] at h; exact absurd rfl h
end ACTS2
