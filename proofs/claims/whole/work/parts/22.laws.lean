-- what may change
def Fr (SI SL : Nat → Nat → Prop) (σ σ' : q_S) : Prop := q_n σ' = q_n σ ∧ q_R σ' = q_R σ ∧ (∀ a i, ¬ SI a i → q_I σ' a i = q_I σ a i) ∧ (∀ a i, ¬ SL a i → q_L σ' a i = q_L σ a i)
def noL : Nat → Nat → Prop := fun _ _ => False
theorem Fr.rf {SI SL : Nat → Nat → Prop} {σ : q_S} : Fr SI SL σ σ := ⟨rfl, rfl, fun _ _ _ => rfl, fun _ _ _ => rfl⟩
theorem Fr.tr {SI SL : Nat → Nat → Prop} {σ σ1 σ2 : q_S} (h1 : Fr SI SL σ σ1) (h2 : Fr SI SL σ1 σ2) : Fr SI SL σ σ2 := ⟨h2.1.trans h1.1, h2.2.1.trans h1.2.1, fun a i h => (h2.2.2.1 a i h).trans (h1.2.2.1 a i h), fun a i h => (h2.2.2.2 a i h).trans (h1.2.2.2 a i h)⟩
theorem Fr.mono {SI SL SI' SL' : Nat → Nat → Prop} {σ σ' : q_S} (h : Fr SI SL σ σ') (hI : ∀ a i, SI a i → SI' a i) (hL : ∀ a i, SL a i → SL' a i) : Fr SI' SL' σ σ' := ⟨h.1, h.2.1, fun a i q => h.2.2.1 a i (fun z => q (hI a i z)), fun a i q => h.2.2.2 a i (fun z => q (hL a i z))⟩
theorem Fr.sh {SI SL : Nat → Nat → Prop} {σ σ' : q_S} (h : Fr SI SL σ σ') (hs : q_Sh σ) : q_Sh σ' := ⟨h.1.trans hs.1, fun x hx => by rw [h.2.1]; exact hs.2 x hx⟩
theorem Fr.setI {SI SL : Nat → Nat → Prop} {σ : q_S} {a i : Nat} {v : Int32} (h : SI a i) : Fr SI SL σ (q_setI σ a i v) := ⟨rfl, rfl, fun a' i' q => by rw [q_setI_I, if_neg]; rintro ⟨rfl, rfl⟩; exact q h, fun _ _ _ => rfl⟩
theorem Fr.setL {SI SL : Nat → Nat → Prop} {σ : q_S} {a i : Nat} {v : Int64} (h : SL a i) : Fr SI SL σ (q_setL σ a i v) := ⟨rfl, rfl, fun _ _ _ => rfl, fun a' i' q => by rw [q_setL_L, if_neg]; rintro ⟨rfl, rfl⟩; exact q h⟩
theorem q_I_eq {σ : q_S} {a i : Nat} {v : Int32} : q_I (q_setI σ a i v) a i = v := by rw [q_setI_I, if_pos ⟨rfl, rfl⟩]
theorem q_I_ne {σ : q_S} {a i a' i' : Nat} {v : Int32} (h : ¬ (a' = a ∧ i' = i)) : q_I (q_setI σ a i v) a' i' = q_I σ a' i' := by rw [q_setI_I, if_neg h]
theorem q_L_eq {σ : q_S} {a i : Nat} {v : Int64} : q_L (q_setL σ a i v) a i = v := by rw [q_setL_L, if_pos ⟨rfl, rfl⟩]
theorem q_L_ne {σ : q_S} {a i a' i' : Nat} {v : Int64} (h : ¬ (a' = a ∧ i' = i)) : q_L (q_setL σ a i v) a' i' = q_L σ a' i' := by rw [q_setL_L, if_neg h]
theorem q_I_setL {σ : q_S} {a i : Nat} {v : Int64} (a' i' : Nat) : q_I (q_setL σ a i v) a' i' = q_I σ a' i' := rfl
theorem q_L_setI {σ : q_S} {a i : Nat} {v : Int32} (a' i' : Nat) : q_L (q_setI σ a i v) a' i' = q_L σ a' i' := rfl
-- the laws' stack
def ScL (a0 : Nat) : Nat → Nat → Prop := fun a i => (a = a0 ∧ i = 6) ∨ a = a0 + 5
def Stk (σ : q_S) (a0 : Nat) (st : List Int32) : Prop := q_I σ a0 6 = nI st.length ∧ st.length ≤ 32 ∧ ∀ i x, st.reverse[i]? = some x → q_I σ (a0 + 5) i = x
section LAWS
variable {G : q_G} {d : Nat} {σ : q_S} {Q : Option Value → q_S → Prop} {a0 : Nat} {st : List Int32}
theorem La_push_ok {v : Int32} (ha : q_isLa a0) (hs : q_Sh σ) (hk : Stk σ a0 st) (hl : st.length < 32) (hq : ∀ σ', Fr (ScL a0) noL σ σ' → Stk σ' a0 (v :: st) → Q none σ') : q_Call G (d + 1) 0 0 X_La_push [.ref a0, .int v] σ Q := by
  refine q_cv0 (P := fun σ' => Fr (ScL a0) noL σ σ' ∧ Stk σ' a0 (v :: st)) (by decide +kernel) (Nat.le_of_ble_eq_true rfl) (fun Q hq => ?_) (fun σ' h => hq σ' h.1 h.2)
  refine v_La_push_0 ha hs ⟨fun c => ?_, fun _ => ⟨st.length, hk.1, hl, hq _ ⟨Fr.tr (Fr.setI (Or.inr rfl)) (Fr.setI (Or.inl ⟨rfl, rfl⟩)), ?_, ?_, ?_⟩⟩⟩
  · rw [hk.1] at c
    exact absurd c (nI_ge (b := 32) hl (by omega))
  · rw [q_I_eq, q_I_ne (by omega), hk.1, nI_1]
    rfl
  · rw [List.length_cons]; omega
  · intro i x hx
    rw [q_I_ne (by omega)]
    rw [List.reverse_cons, List.getElem?_append] at hx
    split at hx
    · rename_i hi
      rw [List.length_reverse] at hi
      rw [q_I_ne (by omega)]
      exact hk.2.2 i x hx
    · rename_i hi
      rw [List.length_reverse] at hi hx
      have hi2 : i - st.length = 0 := by
        have := (List.getElem?_eq_some_iff.mp hx).1
        simp at this
        exact this
      rw [hi2] at hx
      have : i = st.length := by omega
      subst this
      rw [q_I_eq]
      simpa using hx
theorem La_pop_ok {x : Int32} (ha : q_isLa a0) (hs : q_Sh σ) (hk : Stk σ a0 (x :: st)) (hq : ∀ σ', Fr (ScL a0) noL σ σ' → Stk σ' a0 st → Q (some (.int x)) σ') : q_Call G (d + 1) 0 0 X_La_pop [.ref a0] σ Q := by
  have hlen : st.length + 1 ≤ 32 := hk.2.1
  have e1 : q_I σ a0 6 = nI (st.length + 1) := hk.1
  have e2 : q_I σ a0 6 - 1 = nI st.length := by rw [e1, nI_pred]
  refine q_enter (by decide +kernel) (Nat.le_of_ble_eq_true rfl) ?_
  refine v_La_pop_0 ha hs ⟨fun _ => ⟨st.length, by rw [q_I_eq, e2], by omega, ?_⟩, fun c => absurd ?_ c⟩
  · rw [q_I_ne (by omega), e2]
    have hx := hk.2.2 st.length x (by rw [List.reverse_cons, List.getElem?_append_right (by simp)]; simp)
    rw [hx]
    refine ⟨q_no_i, hq _ (Fr.setI (Or.inl ⟨rfl, rfl⟩)) ⟨q_I_eq, by omega, fun i y hy => ?_⟩⟩
    rw [q_I_ne (by omega)]
    exact hk.2.2 i y (by rw [List.reverse_cons, List.getElem?_append_left (by have := (List.getElem?_eq_some_iff.mp hy).1; exact this)]; exact hy)
  · rw [e1]
    exact nI_le (a := 1) (by omega) (by omega)
theorem jn_of {s l r : Int32} (h0 : ¬ 0 ≤ s) (h3 : ¬ -3 ≤ s) (h4 : ¬ s = -4) : True := trivial
theorem La_joined_ok {s l r : Int32} (hs : q_Sh σ) (hq : Q (some (.int (jn s l r))) σ) : q_Call G (d + 1) 0 0 X_La_joined [.int s, .int l, .int r] σ Q := by
  refine q_ci (by decide +kernel) (Nat.le_of_ble_eq_true rfl) (fun Q hq => ?_) hq
  have ti : ∀ k : Int32, s.toInt = k.toInt → s = k := fun k h => Int32.toInt_inj.mp h
  have le : (if r ≤ l then (0 : Int32) else 1) = (if l < r then 1 else 0) := by
    by_cases c : l < r
    · rw [if_pos c, if_neg (fun h => Int32.lt_irrefl (Int32.lt_of_le_of_lt h c))]
    · rw [if_neg c, if_pos (Int32.not_lt.mp c)]
  refine v_La_joined_0 hs ⟨fun c => ?_, fun c => ?_, fun c => ?_, fun c => ?_, fun c => ?_, fun c => ?_, fun c => ?_⟩
  · have n5 : ¬ s = -5 := fun e => by subst e; revert c; decide
    have n6 : ¬ s = -6 := fun e => by subst e; revert c; decide
    have n7 : ¬ s = -7 := fun e => by subst e; revert c; decide
    have n8 : ¬ s = -8 := fun e => by subst e; revert c; decide
    have n9 : ¬ s = -9 := fun e => by subst e; revert c; decide
    have n10 : ¬ s = -10 := fun e => by subst e; revert c; decide
    rw [jn, if_neg n5, if_neg n6, if_neg n7, if_neg n8, if_neg n9, if_neg n10] at hq
    exact hq
  · have := ti (-10) c
    subst this
    exact hq
  · have := ti (-9) c
    subst this
    exact hq
  · have := ti (-8) c
    subst this
    exact hq
  · have := ti (-7) c
    subst this
    rw [le]
    exact hq
  · have := ti (-6) c
    subst this
    exact hq
  · have := ti (-5) c
    subst this
    exact hq
theorem La_loop {w : Nat} {a b c : Int32} {hi : Nat} (ha : q_isLa a0) (hw : w < 3) (hhi : hi ≤ 1024) : ∀ (p : List Int32) (k : Nat) (σ : q_S) (st : List Int32), q_Sh σ → k + p.length = hi → (∀ j, j < p.length → q_I σ (a0 + 1) (k + j) = p.getD j 0) → q_I σ (a0 + 3) w = nI hi → Stk σ a0 st → hgl p st.length = some 1 → (∀ σ', Fr (ScL a0) noL σ σ' → Q (some (.int ((pvl p a b c st).headD 0))) σ') →
    q_At G X_La_valueOf (d + 2) 0 0 24 [some (.ref a0), some (.int (nI w)), some (.int a), some (.int b), some (.int c), some (.int (nI k)), none, none] [] σ Q
  | [], k, σ, st, hs, hk, hp, hto, hst, hg, hq => by
    have hk : k = hi := by simpa using hk
    subst hk
    have hg1 : st.length = 1 := by simpa [hgl] using hg
    match st, hg1 with
    | [x], _ =>
      refine v_La_valueOf_24 ha hs ⟨fun cc => absurd cc (nI_pos (by omega)), fun _ => ⟨w, rfl, hw, fun _ => ?_, fun cc => absurd ?_ cc⟩⟩
      · exact La_pop_ok ha hs hst (fun σ' h1 _ => ⟨h1.sh hs, _, rfl, hq σ' h1⟩)
      · rw [hto]; exact Int32.le_refl _
  | s :: p, k, σ, st, hs, hk, hp, hto, hst, hg, hq => by
    have hlen : k + (p.length + 1) = hi := by simpa using hk
    have hstep : q_I σ (a0 + 1) k = s := by have := hp 0 (by simp); simpa using this
    have hla : a0 + 1 ≠ a0 + 5 ∧ a0 + 3 ≠ a0 + 5 := by omega
    -- behind the step
    have next : ∀ (σ1 : q_S) (st1 : List Int32), Fr (ScL a0) noL σ σ1 → Stk σ1 a0 st1 → hgl p st1.length = some 1 → (pvl (s :: p) a b c st) = pvl p a b c st1 → q_At G X_La_valueOf (d + 2) 0 0 24 [some (.ref a0), some (.int (nI w)), some (.int a), some (.int b), some (.int c), some (.int (nI k + 1)), none, none] [] σ1 Q := by
      intro σ1 st1 hf hst1 hg1 he
      rw [nI_1]
      refine La_loop ha hw hhi p (k + 1) σ1 st1 (hf.sh hs) (by omega) (fun j hj => ?_) ?_ hst1 hg1 (fun σ' h2 => ?_)
      · rw [hf.2.2.1 _ _ (by intro z; rcases z with ⟨z, _⟩ | z <;> omega)]
        have := hp (j + 1) (by simp; omega)
        rw [show k + 1 + j = k + (j + 1) by omega, this]
        simp
      · rw [hf.2.2.1 _ _ (by intro z; rcases z with ⟨z, _⟩ | z <;> omega)]
        exact hto
      · rw [← he]
        exact hq σ' (hf.tr h2)
    have hgs : ∃ h', hg1 s st.length = some h' ∧ hgl p h' = some 1 := by
      rw [hgl] at hg
      split at hg
      · rename_i h' e; exact ⟨h', e, hg⟩
      · cases hg
    obtain ⟨h', hga, hgb⟩ := hgs
    have epv : pvl (s :: p) a b c st = pvl p a b c (pv1 s a b c st) := rfl
    refine v_La_valueOf_24 ha hs ⟨fun cc => absurd cc (nI_pos (by omega)), fun _ => ⟨w, rfl, hw, fun cc => ?_, fun _ => ⟨fun cc => ?_, fun _ => ⟨k, rfl, by omega, fun c1 => ⟨fun c2 => ⟨fun c3 => ?_, fun c3 => ?_⟩, fun c2 => ?_⟩, fun c1 => ?_⟩⟩⟩⟩
    · rw [hto] at cc; exact absurd cc (nI_ge (by omega) (by omega))
    · exact absurd cc (nI_ge (b := 1024) (by omega) (by omega))
    · -- a step of two
      rw [hstep] at c1 c2 c3
      have n0 : ¬ 0 ≤ s := Int32.not_le.mpr c1
      have n3 : ¬ -3 ≤ s := Int32.not_le.mpr c2
      rw [hg1, if_neg n0, if_neg n3, if_neg c3] at hga
      match st, hst, hga, epv, next with
      | [], _, hga, _, _ => simp at hga
      | [_], _, hga, _, _ => simp at hga
      | y :: x :: r, hst, hga, epv, next =>
        have e1 : h' = r.length + 1 := by simp at hga; omega
        subst e1
        have l32 : r.length + 2 ≤ 32 := hst.2.1
        refine La_pop_ok ha hs hst (fun σ1 f1 k1 => ⟨f1.sh hs, _, rfl, ?_⟩)
        refine La_pop_ok ha (f1.sh hs) k1 (fun σ2 f2 k2 => ⟨f2.sh (f1.sh hs), _, rfl, ?_⟩)
        have hs2 := f2.sh (f1.sh hs)
        rw [hstep]
        refine La_joined_ok hs2 ⟨hs2, _, rfl, ?_⟩
        refine La_push_ok ha hs2 k2 (by omega) (fun σ3 f3 k3 => ⟨f3.sh hs2, rfl, ?_⟩)
        refine next σ3 (jn s x y :: r) ((f1.tr f2).tr f3) k3 hgb ?_
        rw [epv]
        simp only [pv1, if_neg n0, if_neg n3, if_neg c3]
    · -- not
      rw [hstep] at c1 c2 c3
      have n0 : ¬ 0 ≤ s := Int32.not_le.mpr c1
      have n3 : ¬ -3 ≤ s := Int32.not_le.mpr c2
      rw [hg1, if_neg n0, if_neg n3, if_pos c3] at hga
      match st, hst, hga, epv, next with
      | [], _, hga, _, _ => simp at hga
      | x :: r, hst, hga, epv, next =>
        have e1 : h' = r.length + 1 := by simp at hga; omega
        subst e1
        have l32 : r.length + 1 ≤ 32 := hst.2.1
        refine La_pop_ok ha hs hst (fun σ1 f1 k1 => ⟨f1.sh hs, _, rfl, ?_⟩)
        refine La_push_ok ha (f1.sh hs) k1 (by omega) (fun σ2 f2 k2 => ⟨f2.sh (f1.sh hs), rfl, ?_⟩)
        refine next σ2 _ (f1.tr f2) k2 hgb ?_
        rw [epv]
        simp only [pv1, if_neg n0, if_neg n3, if_pos c3]
    · -- a fact
      rw [hstep] at c1 c2
      have n0 : ¬ 0 ≤ s := Int32.not_le.mpr c1
      have n3 : -3 ≤ s := Int32.not_lt.mp c2
      rw [hg1, if_neg n0, if_pos n3] at hga
      have l32 : st.length < 32 := by
        rcases Nat.lt_or_ge st.length 32 with h | h
        · exact h
        · rw [if_neg (by omega)] at hga; cases hga
      rw [if_pos l32] at hga
      cases hga
      rw [hstep]
      refine La_push_ok ha hs hst l32 (fun σ2 f2 k2 => ⟨f2.sh hs, rfl, ?_⟩)
      refine next σ2 _ f2 k2 hgb ?_
      rw [epv]
      simp only [pv1, if_neg n0, if_pos n3]
    · -- a number
      rw [hstep] at c1
      have n0 : 0 ≤ s := Int32.not_lt.mp c1
      rw [hg1, if_pos n0] at hga
      have l32 : st.length < 32 := by
        rcases Nat.lt_or_ge st.length 32 with h | h
        · exact h
        · rw [if_neg (by omega)] at hga; cases hga
      rw [if_pos l32] at hga
      cases hga
      rw [hstep]
      refine La_push_ok ha hs hst l32 (fun σ2 f2 k2 => ⟨f2.sh hs, rfl, ?_⟩)
      refine next σ2 _ f2 k2 hgb ?_
      rw [epv]
      simp only [pv1, if_pos n0]
theorem La_value_ok {w lo hi : Nat} {a b c : Int32} {P : Nat → List Int32} (ha : q_isLa a0) (hs : q_Sh σ) (hw : w < 3) (hP : hgl (P w) 0 = some 1) (h1 : q_I σ (a0 + 2) w = nI lo) (h2 : q_I σ (a0 + 3) w = nI hi) (h3 : lo ≤ hi) (h4 : hi ≤ 1024) (h5 : hi - lo = (P w).length) (h6 : ∀ i, i < hi - lo → q_I σ (a0 + 1) (lo + i) = (P w).getD i 0) (hq : ∀ σ', Fr (ScL a0) noL σ σ' → Q (some (.int (vl P w a b c))) σ') : q_Call G (d + 2) 0 0 X_La_valueOf [.ref a0, .int (nI w), .int a, .int b, .int c] σ Q := by
  refine q_enter (by decide +kernel) (Nat.le_of_ble_eq_true rfl) ?_
  refine v_La_valueOf_0 ha hs ⟨fun cc => absurd cc (nI_pos (by omega)), fun _ => ⟨fun _ => ⟨w, rfl, hw, ?_⟩, fun cc => absurd (nI_le (b := 2) (by omega) (by omega)) cc⟩⟩
  have f0 : Fr (ScL a0) noL σ (q_setI σ a0 6 0) := Fr.setI (Or.inl ⟨rfl, rfl⟩)
  rw [q_I_ne (by omega), h1]
  refine La_loop ha hw h4 (P w) lo (q_setI σ a0 6 0) [] hs (by omega) (fun j hj => ?_) ?_ ⟨q_I_eq, by simp, by simp⟩ hP (fun σ' hf => ⟨q_no_i, hq σ' (f0.tr hf)⟩)
  · rw [q_I_ne (by omega)]; exact h6 j (by omega)
  · rw [q_I_ne (by omega)]; exact h2
end LAWS
