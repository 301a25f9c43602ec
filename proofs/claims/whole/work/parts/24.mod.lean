-- the reference's town
def dflt (w : Nat) : List Int32 := match w with
  | 0 => [-1, -2, -9, -3, -10]
  | 1 => [-1, -2, -10]
  | _ => [-2, 2, -11, -1, -10, -3, -9]
def fix (w : Nat) (s : Int32) : Nat := match w with
  | 0 => if s = -1 then 0 else if s = -2 then 1 else 2
  | 1 => if s = -1 then 3 else if s = -2 then 4 else 5
  | _ => if s = -1 then 6 else if s = -2 then 7 else 3
def opc (s : Int32) : Int32 := if 0 ≤ s then 1 else if -3 ≤ s then 2 else if s = -4 then 3 else if s = -5 then 9 else if s = -6 then 10 else if s = -7 then 7 else if s = -8 then 8 else if s = -9 then 4 else if s = -10 then 5 else 6
def MC (σ : q_S) (w s : Nat) (p : List Int32) : Prop := (∀ j, j < p.length → q_I σ 166 (s + j) = opc (p.getD j 0) ∧ (0 ≤ p.getD j 0 → q_I σ 167 (s + j) = p.getD j 0) ∧ (¬ 0 ≤ p.getD j 0 → -3 ≤ p.getD j 0 → q_I σ 167 (s + j) = nI (fix w (p.getD j 0)))) ∧ q_I σ 166 (s + p.length) = 0 ∧ s + p.length < 1100
def MT0 (σ : q_S) (D : Nat → Nat) (P : Nat → List Int32) : Prop := (∀ i, i < 200 → ¬ (5 ≤ i ∧ i < 8) → q_I σ 165 i = nI (D i)) ∧ ∀ w, w < 3 → (q_I σ 165 (5 + w) = -1 ∧ P w = dflt w) ∨ ∃ s, q_I σ 165 (5 + w) = nI s ∧ MC σ w s (P w)
def MT (σ : q_S) (D : Nat → Nat) (P : Nat → List Int32) : Prop := MT0 σ D P ∧ ∀ f e k, f < D 1 → e < D 1 → k ≤ 9 → q_I σ 177 (60 * f + 10 * e + k) = nz D P f e k
def F3 (σ : q_S) (w : Nat) (a b c : Int32) : Prop := q_I σ 173 (fix w (-1)) = a ∧ q_I σ 173 (fix w (-2)) = b ∧ q_I σ 173 (fix w (-3)) = c
def PSt (σ : q_S) (st : List Int32) : Prop := st.length ≤ 32 ∧ ∀ i x, st.reverse[i]? = some x → q_I σ 174 i = x
def Sp : Nat → Nat → Prop := fun a _ => a = 174
theorem fix_lt (w : Nat) (s : Int32) : fix w s < 8 := by
  unfold fix
  split <;> (split <;> first | decide | (split <;> decide))
section MOD
variable {G : q_G} {d : Nat} {σ : q_S} {Q : Option Value → q_S → Prop} {D hm : Nat → Nat} {P : Nat → List Int32}
theorem PSt.push {st : List Int32} {v : Int32} (h : PSt σ st) (hl : st.length < 32) : PSt (q_setI σ 174 st.length v) (v :: st) := by
  refine ⟨by rw [List.length_cons]; omega, fun i x hx => ?_⟩
  rw [List.reverse_cons, List.getElem?_append] at hx
  split at hx
  · rename_i hi
    rw [List.length_reverse] at hi
    rw [q_I_ne (by omega)]
    exact h.2 i x hx
  · rename_i hi
    rw [List.length_reverse] at hi hx
    have hi2 : i - st.length = 0 := by
      have := (List.getElem?_eq_some_iff.mp hx).1
      simp at this
      exact this
    rw [hi2] at hx
    have : i = st.length := by omega
    subst this
    rw [q_I_eq]
    simpa using hx
theorem PSt.top {st : List Int32} {x : Int32} (h : PSt σ (x :: st)) : q_I σ 174 st.length = x := h.2 st.length x (by rw [List.reverse_cons, List.getElem?_append_right (by simp)]; simp)
theorem PSt.tail {st : List Int32} {x : Int32} (h : PSt σ (x :: st)) : PSt σ st := ⟨by have := h.1; rw [List.length_cons] at this; omega, fun i y hy => h.2 i y (by rw [List.reverse_cons, List.getElem?_append_left (by have := (List.getElem?_eq_some_iff.mp hy).1; exact this)]; exact hy)⟩
theorem M_both_ok {s l r : Int32} (hs : q_Sh σ) (n0 : ¬ 0 ≤ s) (n3 : ¬ -3 ≤ s) (n4 : ¬ s = -4) (hq : Q (some (.int (jn s l r))) σ) : q_Call G d 0 0 X_M_both [.int (opc s), .int l, .int r] σ Q := by
  refine q_ci (by decide +kernel) (Nat.le_of_ble_eq_true rfl) (fun Q hq => ?_) hq
  have le : (if r ≤ l then (0 : Int32) else 1) = (if l < r then 1 else 0) := by
    by_cases c : l < r
    · rw [if_pos c, if_neg (fun h => Int32.lt_irrefl (Int32.lt_of_le_of_lt h c))]
    · rw [if_neg c, if_pos (Int32.not_lt.mp c)]
  by_cases c5 : s = -5
  · subst c5; exact v_M_both_0 hs ⟨fun c => absurd c (by decide), fun c => absurd c (by decide), fun c => absurd c (by decide), fun c => absurd c (by decide), fun c => absurd c (by decide), fun c => absurd c (by decide), fun _ => hq⟩
  by_cases c6 : s = -6
  · subst c6; exact v_M_both_0 hs ⟨fun _ => hq, fun c => absurd c (by decide), fun c => absurd c (by decide), fun c => absurd c (by decide), fun c => absurd c (by decide), fun c => absurd c (by decide), fun c => absurd c (by decide)⟩
  by_cases c7 : s = -7
  · subst c7; exact v_M_both_0 hs ⟨fun c => absurd c (by decide), fun c => absurd c (by decide), fun c => absurd c (by decide), fun c => absurd c (by decide), fun _ => by rw [le]; exact hq, fun c => absurd c (by decide), fun c => absurd c (by decide)⟩
  by_cases c8 : s = -8
  · subst c8; exact v_M_both_0 hs ⟨fun c => absurd c (by decide), fun c => absurd c (by decide), fun c => absurd c (by decide), fun c => absurd c (by decide), fun c => absurd c (by decide), fun _ => hq, fun c => absurd c (by decide)⟩
  by_cases c9 : s = -9
  · subst c9; exact v_M_both_0 hs ⟨fun c => absurd c (by decide), fun _ => hq, fun c => absurd c (by decide), fun c => absurd c (by decide), fun c => absurd c (by decide), fun c => absurd c (by decide), fun c => absurd c (by decide)⟩
  by_cases c10 : s = -10
  · subst c10; exact v_M_both_0 hs ⟨fun c => absurd c (by decide), fun c => absurd c (by decide), fun _ => hq, fun c => absurd c (by decide), fun c => absurd c (by decide), fun c => absurd c (by decide), fun c => absurd c (by decide)⟩
  have eo : opc s = 6 := by rw [opc, if_neg n0, if_neg n3, if_neg n4, if_neg c5, if_neg c6, if_neg c7, if_neg c8, if_neg c9, if_neg c10]
  rw [jn, if_neg c5, if_neg c6, if_neg c7, if_neg c8, if_neg c9, if_neg c10] at hq
  rw [eo]
  exact v_M_both_0 hs ⟨fun c => absurd c (by decide), fun c => absurd c (by decide), fun c => absurd c (by decide), fun _ => hq, fun c => absurd c (by decide), fun c => absurd c (by decide), fun c => absurd c (by decide)⟩
end MOD
