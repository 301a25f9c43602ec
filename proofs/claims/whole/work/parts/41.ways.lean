-- all ways to give houses to the families, in their order
def updN (w : Nat → Nat) (i x : Nat) : Nat → Nat := fun k => if k = i then x else w k
def gw (H : Nat) : Nat → Nat → Nat → (Nat → Nat) → List (Nat → Nat)
  | 0, _, _, w => [w]
  | r + 1, f, m, w => (List.range H).flatMap (fun h => if m.testBit h then [] else gw H r (f + 1) (m ||| 2 ^ h) (updN w f h))
def gl (H : Nat) : Nat → Nat → Nat
  | 0, _ => 1
  | r + 1, m => (List.range H).foldl (fun a h => a + if m.testBit h then 0 else gl H r (m ||| 2 ^ h)) 0
theorem fm_len {α : Type} {g : Nat → List α} {c : Nat → Nat} (h : ∀ i, (g i).length = c i) : ∀ n, ((List.range n).flatMap g).length = (List.range n).foldl (fun a i => a + c i) 0
  | 0 => rfl
  | n + 1 => by
    rw [List.range_succ, List.flatMap_append, List.length_append, List.foldl_append, fm_len h n]
    simp [h]
theorem gw_len {H : Nat} : ∀ r f m w, (gw H r f m w).length = gl H r m
  | 0, _, _, _ => rfl
  | r + 1, f, m, w => by
    rw [gw, gl]
    exact fm_len (c := fun h => if m.testBit h then 0 else gl H r (m ||| 2 ^ h)) (fun h => by
      by_cases c : m.testBit h = true
      · rw [if_pos c, if_pos c]; rfl
      · rw [if_neg c, if_neg c]; exact gw_len r (f + 1) _ _) H
theorem gl_le : ∀ H, H ≤ 6 → ∀ F, F ≤ H → gl H F 0 ≤ 720 ∧ 0 < gl H F 0 := by decide +kernel
def wys (D : Nat → Nat) : List (Nat → Nat) := gw (D 0) (D 1) 0 0 (fun _ => 0)
theorem wys_len {D : Nat → Nat} (hD : WfD D) : (wys D).length ≤ 720 ∧ 0 < (wys D).length := by
  unfold wys
  rw [gw_len]
  exact gl_le _ hD.2.1 _ hD.1
-- what a way is: houses that are there, no two alike
theorem gw_ok {H : Nat} : ∀ r f m w, (∀ j, j < f → w j < H ∧ m.testBit (w j) = true) → (∀ i j, i < f → j < f → w i = w j → i = j) → ∀ v ∈ gw H r f m w, (∀ j, j < f + r → v j < H) ∧ (∀ i j, i < f + r → j < f + r → v i = v j → i = j)
  | 0, f, m, w, h1, h2, v, hv => by
    rw [gw, List.mem_singleton] at hv
    subst hv
    exact ⟨fun j hj => (h1 j hj).1, h2⟩
  | r + 1, f, m, w, h1, h2, v, hv => by
    rw [gw, List.mem_flatMap] at hv
    obtain ⟨h, hh, hv⟩ := hv
    rw [List.mem_range] at hh
    by_cases c : m.testBit h = true
    · rw [if_pos c] at hv
      exact absurd hv List.not_mem_nil
    · rw [if_neg c] at hv
      have := gw_ok r (f + 1) (m ||| 2 ^ h) (updN w f h) (fun j hj => ?_) (fun i j hi hj hij => ?_) v hv
      · rw [show f + (r + 1) = f + 1 + r by omega]
        exact this
      · unfold updN
        split
        · exact ⟨hh, by rw [Nat.testBit_or, Nat.testBit_two_pow_self, Bool.or_true]⟩
        · have := h1 j (by omega)
          exact ⟨this.1, by rw [Nat.testBit_or, this.2, Bool.true_or]⟩
      · unfold updN at hij
        by_cases c1 : i = f
        · by_cases c2 : j = f
          · omega
          · rw [if_pos c1, if_neg c2] at hij
            have := (h1 j (by omega)).2
            rw [← hij] at this
            exact absurd this c
        · by_cases c2 : j = f
          · rw [if_neg c1, if_pos c2] at hij
            have := (h1 i (by omega)).2
            rw [hij] at this
            exact absurd this c
          · rw [if_neg c1, if_neg c2] at hij
            exact h2 i j (by omega) (by omega) hij
theorem wys_ok {D w : Nat → Nat} (h : w ∈ wys D) : (∀ f, f < D 1 → w f < D 0) ∧ (∀ i j, i < D 1 → j < D 1 → w i = w j → i = j) := by
  have := gw_ok (D 1) 0 0 (fun _ => 0) (fun j hj => absurd hj (Nat.not_lt_zero j)) (fun i j hi => absurd hi (Nat.not_lt_zero i)) w h
  rwa [Nat.zero_add] at this
theorem mbit : ∀ m, m < 64 → ∀ h, h < 6 → (((nI m >>> (nI h &&& 31)) &&& 1 = 0) ↔ m.testBit h = false) := by decide +kernel
theorem mset : ∀ m, m < 64 → ∀ h, h < 6 → (nI m ||| ((1 : Int32) <<< (nI h &&& 31)) = nI (m ||| 2 ^ h) ∧ m ||| 2 ^ h < 64) := by decide +kernel
-- what the class keeps of them
def jsm (D : Nat → Nat) (P : Nat → List Int32) (f : Nat) (ws : List (Nat → Nat)) : Int32 := ws.foldl (fun a w => a + joyv D w P f) 0
def WyD (σ : q_S) (D : Nat → Nat) (P : Nat → List Int32) (ws : List (Nat → Nat)) : Prop := q_I σ 5 6 = nI (D 1) ∧ q_I σ 5 7 = nI ws.length ∧ (∀ k w, ws[k]? = some w → q_I σ 6 k = nI (dgN 8 w (D 1)) ∧ q_L σ 7 k = lN (dgN 512 (fltN D w P) (D 1)) ∧ q_L σ 8 k = prs D w ∧ q_I σ 9 k = ncont D w P (D 1)) ∧ ∀ f, f < D 1 → q_I σ 10 f = jsm D P f ws
def SWy (f : Nat) : Nat → Nat → Prop := fun a i => Sc a i ∨ a = 6 ∨ a = 9 ∨ a = 10 ∨ (a = 5 ∧ i = 7) ∨ (a = 11 ∧ f ≤ i)
def SLy : Nat → Nat → Prop := fun a _ => a = 7 ∨ a = 8
theorem CT.wy {σ σ' : q_S} {t f : Nat} {D : Nat → Nat} {P : Nat → List Int32} (ht : q_isTw t) (h : CT σ t D P) (hf : Fr (SWy f) SLy σ σ') : CT σ' t D P := h.keep (fun a i hc => hf.2.2.1 a i (fun z => by
    rcases z with z | z
    · exact TC_Sc ht hc z
    · exact TC_in ht hc (by unfold fT; omega))) (fun i => hf.2.2.2 _ i (fun z => by have := isTw_cases ht; unfold SLy at z; omega))
section WAYS
variable {G : q_G} {d : Nat} {σ : q_S} {Q : Option Value → q_S → Prop} {t f : Nat} {D hm : Nat → Nat} {P : Nat → List Int32} {ws : List (Nat → Nat)}
theorem Sc6 {a i : Nat} (h : Sc a i) : 40 ≤ a := by unfold Sc at h; omega
theorem Wy_note_ok {w : Nat → Nat} (ht : q_isTw t) (hs : q_Sh σ) (hD : WfD D) (hP : WfP P) (hT : CT σ t D P) (hW : WyD σ D P ws) (hh : HM σ 11 D w) (hl : ws.length < 720) (hq : ∀ σ', Fr (SWy (D 1)) SLy σ σ' → WyD σ' D P (ws ++ [w]) → Q none σ') : q_Call G (d + 4) 0 0 X_Wy_note [.ref 5, .ref t] σ Q := by
  have h6 := hD.F6
  have hH := hD.2.1
  refine q_cv0 (P := fun σ' => Fr (SWy (D 1)) SLy σ σ' ∧ WyD σ' D P (ws ++ [w])) (by decide +kernel) (Nat.le_of_ble_eq_true rfl) (fun Q hq => ?_) (fun σ' h => hq σ' h.1 h.2)
  have hw8 : ∀ f, f < D 1 → w f < 8 := fun f hf => by have := (hh f hf).2; omega
  have hwf : ∀ f, f < D 1 → fltN D w P f < 512 := fun f hf => felt_lt hD (fun f hf => (hh f hf).2) hf
  refine v_Wy_note_0 ht hs ⟨fun _ => ?_, fun c => absurd (by rw [hW.2.1]; exact nI_lt (b := 720) hl (by decide)) c⟩
  refine up_ind (R := fun k => ∀ σ1, Fr (SWy (D 1)) SLy σ σ1 → (∀ a i, a ≠ 10 → a < 40 → q_I σ1 a i = q_I σ a i) → (∀ a i, q_L σ1 a i = q_L σ a i) → (∀ j, j < D 1 → q_I σ1 10 j = if j < k then jsm D P j ws + joyv D w P j else jsm D P j ws) → q_At G X_Wy_note (d + 4) 0 0 21 [some (.ref 5), some (.ref t), some (.int (nI (dgN 8 w k))), some (.long (lN (dgN 512 (fltN D w P) k))), none, some (.int (ncont D w P k)), some (.int (nI k)), none] [] σ1 Q) (n := D 1) (fun σ1 fr g1 g2 g3 => ?_) (fun k hk ih σ1 fr g1 g2 g3 => ?_) 0 (Nat.zero_le _) σ Fr.rf (fun _ _ _ _ => rfl) (fun _ _ => rfl) (fun j hj => by rw [if_neg (Nat.not_lt_zero j)]; exact hW.2.2.2 j hj)
  · have e6 : q_I σ1 5 6 = nI (D 1) := by rw [g1 _ _ (by decide) (by decide)]; exact hW.1
    have e7 : q_I σ1 5 7 = nI ws.length := by rw [g1 _ _ (by decide) (by decide)]; exact hW.2.1
    refine v_Wy_note_21 ht (fr.sh hs) ⟨fun _ => ?_, fun c => absurd (by rw [e6]; exact Int32.le_refl _) c⟩
    refine ⟨ws.length, e7, hl, ws.length, by rw [q_I_ne (by omega)]; exact e7, hl, ws.length, by rw [q_I_setL, q_I_ne (by omega)]; exact e7, hl, ?_⟩
    have f2 : Fr (SWy (D 1)) SLy σ (q_setI (q_setL (q_setI σ1 6 ws.length (nI (dgN 8 w (D 1)))) 7 ws.length (lN (dgN 512 (fltN D w P) (D 1)))) 9 ws.length (ncont D w P (D 1))) := fr.tr (Fr.tr (Fr.tr (Fr.setI (Or.inr (Or.inl rfl))) (Fr.setL (Or.inl rfl))) (Fr.setI (Or.inr (Or.inr (Or.inl rfl)))))
    refine Tw_pairs_ok (d := d) ht (by decide +kernel) (f2.sh hs) hD (hT.wy ht f2).1 (hm := w) (fun f hf => ⟨?_, (hh f hf).2⟩) ⟨f2.sh hs, _, rfl, ws.length, ?_, hl, ?_⟩
    · rw [q_I_ne (by omega), q_I_setL, q_I_ne (by omega), g1 _ _ (by decide) (by decide)]
      exact (hh f hf).1
    · rw [q_I_ne (by omega), q_I_setL, q_I_ne (by omega)]; exact e7
    · refine hq _ ⟨f2.tr (Fr.tr (Fr.setL (Or.inr rfl)) (Fr.setI (Or.inr (Or.inr (Or.inr (Or.inr (Or.inl ⟨rfl, rfl⟩))))))), ?_, ?_, fun k v hk => ?_, fun f hf => ?_⟩
      · rw [q_I_ne (by omega), q_I_setL, q_I_ne (by omega), q_I_setL, q_I_ne (by omega)]; exact e6
      · rw [q_I_eq, q_I_setL, q_I_ne (by omega), q_I_setL, q_I_ne (by omega), e7, nI_1, List.length_append]; rfl
      · by_cases c : k < ws.length
        · rw [List.getElem?_append_left c] at hk
          obtain ⟨x1, x2, x3, x4⟩ := hW.2.2.1 k v hk
          refine ⟨?_, ?_, ?_, ?_⟩
          · rw [q_I_ne (by omega), q_I_setL, q_I_ne (by omega), q_I_setL, q_I_ne (by omega), g1 _ _ (by decide) (by decide)]; exact x1
          · rw [q_L_setI, q_L_ne (by omega), q_L_setI, q_L_ne (by omega), q_L_setI, g2]; exact x2
          · rw [q_L_setI, q_L_ne (by omega), q_L_setI, q_L_ne (by omega), q_L_setI, g2]; exact x3
          · rw [q_I_ne (by omega), q_I_setL, q_I_ne (by omega), q_I_setL, q_I_ne (by omega), g1 _ _ (by decide) (by decide)]; exact x4
        · have hk2 : k = ws.length := by
            have := (List.getElem?_eq_some_iff.mp hk).1
            rw [List.length_append] at this
            simp only [List.length_cons, List.length_nil] at this
            omega
          subst hk2
          rw [List.getElem?_append_right (Nat.le_refl _), Nat.sub_self] at hk
          have hv : w = v := Option.some.inj hk
          subst hv
          refine ⟨?_, ?_, ?_, ?_⟩
          · rw [q_I_ne (by omega), q_I_setL, q_I_ne (by omega), q_I_setL, q_I_eq]
          · rw [q_L_setI, q_L_ne (by omega), q_L_setI, q_L_eq]
          · rw [q_L_setI, q_L_eq]
          · rw [q_I_ne (by omega), q_I_setL, q_I_eq]
      · rw [q_I_ne (by omega), q_I_setL, q_I_ne (by omega), q_I_setL, q_I_ne (by omega), g3 f hf, if_pos hf, jsm, jsm, List.foldl_append]
        rfl
  · have e6 : q_I σ1 5 6 = nI (D 1) := by rw [g1 _ _ (by decide) (by decide)]; exact hW.1
    have hh1 : HM σ1 11 D w := fun f hf => ⟨by rw [g1 _ _ (by decide) (by decide)]; exact (hh f hf).1, (hh f hf).2⟩
    refine v_Wy_note_21 ht (fr.sh hs) ⟨fun c => by rw [e6] at c; exact ge_not c hk (by omega), fun _ => ?_⟩
    refine Tw_joy_ok (d := d) ht (by decide +kernel) (fr.sh hs) hD hP (hT.wy ht fr) hh1 hk (fun σ2 f2 => ⟨f2.sh (fr.sh hs), _, rfl, k, rfl, by omega, k, rfl, by omega, k, rfl, by omega, ?_⟩)
    have f3 : Fr (SWy (D 1)) SLy σ σ2 := fr.tr (f2.mono (fun _ _ h => Or.inl h) (fun _ _ h => h.elim))
    have f4 : Fr (SWy (D 1)) SLy σ (q_setI σ2 10 k (q_I σ2 10 k + joyv D w P k)) := f3.tr (Fr.setI (Or.inr (Or.inr (Or.inr (Or.inl rfl)))))
    have k2 : ∀ a i, a < 40 → q_I σ2 a i = q_I σ1 a i := fun a i h => f2.2.2.1 a i (fun z => by have := Sc6 z; omega)
    have hh4 : HM (q_setI σ2 10 k (q_I σ2 10 k + joyv D w P k)) 11 D w := fun f hf => ⟨by rw [q_I_ne (by omega), k2 _ _ (by decide)]; exact (hh1 f hf).1, (hh f hf).2⟩
    refine Tw_felt_ok (d := d + 1) ht (by decide +kernel) (f4.sh hs) hD (hT.wy ht f4) hh4 hk ⟨f4.sh hs, _, rfl, ?_⟩
    dsimp only
    rw [(hh4 k hk).1, felt_N, row_add (by omega) (fun f hf => hw8 f (by omega)), flt_add (by omega) (fun f hf => hwf f (by omega)), ge0_lt, nI_1]
    refine ih _ f4 (fun a i a1 a2 => by rw [q_I_ne (by omega), k2 a i a2]; exact g1 a i a1 a2) (fun a i => by rw [q_L_setI, f2.2.2.2 _ _ (fun z => z)]; exact g2 a i) (fun j hj => ?_)
    by_cases c : j = k
    · subst c
      rw [q_I_eq, if_pos (by omega), k2 _ _ (by decide), g3 j hj, if_neg (by omega)]
    · rw [q_I_ne (by omega), k2 _ _ (by decide), g3 j hj]
      by_cases c2 : j < k
      · rw [if_pos c2, if_pos (by omega)]
      · rw [if_neg c2, if_neg (by omega)]
end WAYS
