theorem opc_bin {s : Int32} (n0 : ¬ 0 ≤ s) (n3 : ¬ -3 ≤ s) (n4 : ¬ s = -4) : ¬ opc s = 0 ∧ ¬ opc s = 1 ∧ ¬ opc s = 2 ∧ ¬ opc s = 3 := by
  rw [opc, if_neg n0, if_neg n3, if_neg n4]
  split
  · decide
  split
  · decide
  split
  · decide
  split
  · decide
  split
  · decide
  split <;> decide
theorem fix_of {w : Nat} {s : Int32} (n0 : ¬ 0 ≤ s) (n3 : -3 ≤ s) : fix w s = fix w (if s = -1 then -1 else if s = -2 then -2 else -3) := by
  by_cases c1 : s = -1
  · rw [c1]; rfl
  · by_cases c2 : s = -2
    · rw [c2]; rfl
    · rw [if_neg c1, if_neg c2]
      unfold fix
      split <;> (rw [if_neg c1, if_neg c2, if_neg (by decide), if_neg (by decide)])
theorem F3.at {σ : q_S} {w : Nat} {a b c s : Int32} (h : F3 σ w a b c) (n0 : ¬ 0 ≤ s) (n3 : -3 ≤ s) : q_I σ 173 (fix w s) = if s = -1 then a else if s = -2 then b else c := by
  rw [fix_of n0 n3]
  split
  · exact h.1
  · split
    · exact h.2.1
    · exact h.2.2
section MOD2
variable {G : q_G} {d : Nat} {σ : q_S} {Q : Option Value → q_S → Prop} {D hm : Nat → Nat} {P : Nat → List Int32}
theorem m1I (n : Nat) : nI (n + 1) + (-1) = nI n := pk_m1 n
theorem M_loop {w : Nat} {a b c : Int32} {p0 : Int32} : ∀ (p : List Int32) (k : Nat) (σ : q_S) (st : List Int32), q_Sh σ → MC σ w k p → F3 σ w a b c → PSt σ st → hgl p st.length = some 1 → (∀ σ', Fr Sp noL σ σ' → Q (some (.int ((pvl p a b c st).headD 0))) σ') →
    q_At G X_M_worthAt (d + 1) 0 0 4 [some (.ref 159), some (.int p0), some (.int (nI st.length)), some (.int (nI k)), none] [] σ Q
  | [], k, σ, st, hs, hM, hF, hst, hg, hq => by
    have hg1 : st.length = 1 := by simpa [hgl] using hg
    have hlt : k < 1100 := by have := hM.2.2; simp at this; exact this
    match st, hg1 with
    | [x], _ =>
      refine v_M_worthAt_4 hs ⟨k, rfl, by omega, fun _ => ?_, fun cc => absurd ?_ cc⟩
      · have e0 : q_I σ 174 0 = x := hst.top
        rw [e0]
        exact hq σ Fr.rf
      · have := hM.2.1; simp at this; exact this
  | s :: p, k, σ, st, hs, hM, hF, hst, hg, hq => by
    obtain ⟨h1, h2, h3⟩ := hM
    have hlt : k + (p.length + 1) < 1100 := by simpa using h3
    obtain ⟨g1, g2, g3⟩ := h1 0 (by simp)
    simp only [Nat.add_zero, List.getD_cons_zero] at g1 g2 g3
    have hMp : ∀ σ1, Fr Sp noL σ σ1 → MC σ1 w (k + 1) p := by
      intro σ1 hf
      have e6 : ∀ i, q_I σ1 166 i = q_I σ 166 i := fun i => hf.2.2.1 _ _ (by simp [Sp])
      have e7 : ∀ i, q_I σ1 167 i = q_I σ 167 i := fun i => hf.2.2.1 _ _ (by simp [Sp])
      refine ⟨fun j hj => ?_, ?_, by omega⟩
      · have := h1 (j + 1) (by simp; omega)
        rw [show k + (j + 1) = k + 1 + j by omega, List.getD_cons_succ] at this
        rw [e6, e7]
        exact this
      · rw [e6, show k + 1 + p.length = k + (s :: p).length by simp; omega]
        exact h2
    have hFp : ∀ σ1, Fr Sp noL σ σ1 → F3 σ1 w a b c := by
      intro σ1 hf
      have e3 : ∀ i, q_I σ1 173 i = q_I σ 173 i := fun i => hf.2.2.1 _ _ (by simp [Sp])
      exact ⟨by rw [e3]; exact hF.1, by rw [e3]; exact hF.2.1, by rw [e3]; exact hF.2.2⟩
    have next : ∀ (σ1 : q_S) (st1 : List Int32), Fr Sp noL σ σ1 → PSt σ1 st1 → hgl p st1.length = some 1 → (pvl (s :: p) a b c st) = pvl p a b c st1 → q_At G X_M_worthAt (d + 1) 0 0 4 [some (.ref 159), some (.int p0), some (.int (nI st1.length)), some (.int (nI k + 1)), none] [] σ1 Q := by
      intro σ1 st1 hf hst1 hg1 he
      rw [nI_1]
      exact M_loop p (k + 1) σ1 st1 (hf.sh hs) (hMp σ1 hf) (hFp σ1 hf) hst1 hg1 (fun σ' hf2 => by rw [← he]; exact hq σ' (hf.tr hf2))
    have hgs : ∃ h', hg1 s st.length = some h' ∧ hgl p h' = some 1 := by
      rw [hgl] at hg
      split at hg
      · rename_i h' e; exact ⟨h', e, hg⟩
      · cases hg
    obtain ⟨h', hga, hgb⟩ := hgs
    have epv : pvl (s :: p) a b c st = pvl p a b c (pv1 s a b c st) := rfl
    have hl32 := hst.1
    by_cases n0 : 0 ≤ s
    · -- a number
      have eo : q_I σ 166 k = 1 := by rw [g1, opc, if_pos n0]
      rw [hg1, if_pos n0] at hga
      have l32 : st.length < 32 := by
        rcases Nat.lt_or_ge st.length 32 with h | h
        · exact h
        · rw [if_neg (by omega)] at hga; cases hga
      rw [if_pos l32] at hga
      cases hga
      have nx := next (q_setI σ 174 st.length s) (s :: st) (Fr.setI rfl) (hst.push l32) hgb (by rw [epv]; simp only [pv1, if_pos n0])
      rw [List.length_cons, ← nI_1] at nx
      refine v_M_worthAt_4 hs ⟨k, rfl, by omega, fun cc => absurd (eo.symm.trans cc) (by decide), fun _ => ⟨k, rfl, by omega, fun _ => ⟨fun cc => absurd eo cc, fun _ => ⟨k, rfl, by omega, st.length, rfl, by omega, ?_⟩⟩, fun cc => absurd eo cc⟩⟩
      rw [g2 n0]
      exact nx
    · by_cases n3 : -3 ≤ s
      · -- a fact
        have eo : q_I σ 166 k = 2 := by rw [g1, opc, if_neg n0, if_pos n3]
        rw [hg1, if_neg n0, if_pos n3] at hga
        have l32 : st.length < 32 := by
          rcases Nat.lt_or_ge st.length 32 with h | h
          · exact h
          · rw [if_neg (by omega)] at hga; cases hga
        rw [if_pos l32] at hga
        cases hga
        have nx := next (q_setI σ 174 st.length (if s = -1 then a else if s = -2 then b else c)) ((if s = -1 then a else if s = -2 then b else c) :: st) (Fr.setI rfl) (hst.push l32) hgb (by rw [epv]; simp only [pv1, if_neg n0, if_pos n3])
        rw [List.length_cons, ← nI_1] at nx
        refine v_M_worthAt_4 hs ⟨k, rfl, by omega, fun cc => absurd (eo.symm.trans cc) (by decide), fun _ => ⟨k, rfl, by omega, fun cc => absurd (eo.symm.trans cc) (by decide), fun _ => ⟨fun cc => absurd eo cc, fun _ => ⟨fun _ => ⟨k, rfl, by omega, fix w s, g3 n0 n3, fix_lt w s, st.length, rfl, by omega, ?_⟩, fun cc => absurd (eo.symm.trans cc) (by decide)⟩⟩⟩⟩
        rw [hF.at n0 n3]
        exact nx
      · by_cases n4 : s = -4
        · -- not
          have eo : q_I σ 166 k = 3 := by rw [g1, n4]; rfl
          rw [hg1, if_neg n0, if_neg n3, if_pos n4] at hga
          match st, hst, hga, epv, next, hl32 with
          | [], _, hga, _, _, _ => simp at hga
          | x :: r, hst, hga, epv, next, hl32 =>
            have e1 : h' = r.length + 1 := by simp at hga; omega
            subst e1
            rw [List.length_cons] at hl32
            have nx := next (q_setI σ 174 r.length (if x = 0 then 1 else 0)) ((if x = 0 then 1 else 0) :: r) (Fr.setI rfl) (hst.tail.push (by omega)) hgb (by rw [epv]; simp only [pv1, if_neg n0, if_neg n3, if_pos n4])
            refine v_M_worthAt_4 hs ⟨k, rfl, by omega, fun cc => absurd (eo.symm.trans cc) (by decide), fun _ => ⟨k, rfl, by omega, fun cc => absurd (eo.symm.trans cc) (by decide), fun _ => ⟨fun _ => ⟨fun cc => absurd eo cc, fun _ => ⟨r.length, by rw [List.length_cons, nI_pred], by omega, r.length, by rw [List.length_cons, nI_pred], by omega, ?_⟩⟩, fun cc => absurd (eo.symm.trans cc) (by decide)⟩⟩⟩
            rw [hst.top]
            exact nx
        · -- a step of two
          obtain ⟨b0, b1, b2, b3⟩ := opc_bin n0 n3 n4
          rw [← g1] at b0 b1 b2 b3
          rw [hg1, if_neg n0, if_neg n3, if_neg n4] at hga
          match st, hst, hga, epv, next, hl32 with
          | [], _, hga, _, _, _ => simp at hga
          | [_], _, hga, _, _, _ => simp at hga
          | y :: x :: r, hst, hga, epv, next, hl32 =>
            have e1 : h' = r.length + 1 := by simp at hga; omega
            subst e1
            rw [List.length_cons, List.length_cons] at hl32
            have nx := next (q_setI σ 174 r.length (jn s x y)) (jn s x y :: r) (Fr.setI rfl) (hst.tail.tail.push (by omega)) hgb (by rw [epv]; simp only [pv1, if_neg n0, if_neg n3, if_neg n4])
            rw [List.length_cons] at nx
            have eA : nI (y :: x :: r).length + (-1) = nI (r.length + 1) := by rw [List.length_cons, m1I, List.length_cons]
            have eB : nI (r.length + 1) - 1 = nI r.length := nI_pred _
            refine v_M_worthAt_4 hs ⟨k, rfl, by omega, fun cc => absurd cc b0, fun _ => ⟨k, rfl, by omega, fun cc => absurd cc b1, fun _ => ⟨fun _ => ⟨fun _ => ⟨r.length, by rw [eA, eB], by omega, r.length + 1, eA, by omega, ?_⟩, fun cc => absurd cc b3⟩, fun cc => absurd cc b2⟩⟩⟩
            have ty : q_I σ 174 (r.length + 1) = y := hst.top
            have tx : q_I σ 174 r.length = x := hst.tail.top
            rw [g1, ty, tx]
            refine M_both_ok hs n0 n3 n4 ⟨hs, _, rfl, r.length, by rw [eA, eB], by omega, ?_⟩
            rw [eA]
            exact nx
theorem M_worth_ok {w s : Nat} {a b c : Int32} (hs : q_Sh σ) (hM : MC σ w s (P w)) (hF : F3 σ w a b c) (hP : hgl (P w) 0 = some 1) (hq : ∀ σ', Fr Sp noL σ σ' → Q (some (.int (vl P w a b c))) σ') : q_Call G (d + 1) 0 0 X_M_worthAt [.ref 159, .int (nI s)] σ Q := by
  refine q_enter (by decide +kernel) (Nat.le_of_ble_eq_true rfl) ?_
  refine v_M_worthAt_0 hs ?_
  exact M_loop (P w) s σ [] hs hM hF ⟨by simp, by simp⟩ hP (fun σ' hf => ⟨q_no_i, hq σ' hf⟩)
end MOD2
