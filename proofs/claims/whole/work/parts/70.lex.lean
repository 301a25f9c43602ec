-- the tape cut into tokens: (sort, place, number or word's number or sign, letters)
abbrev q_tk : Type := Nat × Nat × Nat × List Nat
def isBl (c : Nat) : Bool := decide (c = 32 ∨ c = 10)
def isLe (c : Nat) : Bool := decide (97 ≤ c ∧ c ≤ 122)
def isDg (c : Nat) : Bool := decide (48 ≤ c ∧ c ≤ 57)
def isSg (c : Nat) : Bool := decide (c = 40 ∨ c = 41 ∨ c = 60 ∨ c = 61 ∨ c = 43 ∨ c = 45 ∨ c = 42 ∨ c = 59)
def run (b : Nat → Bool) (tp : List Nat) : Nat → Nat → Nat
  | 0, p => p
  | n + 1, p => if p < tp.length ∧ b (tp.getD p 0) = true then run b tp n (p + 1) else p
def rn (b : Nat → Bool) (tp : List Nat) (p : Nat) : Nat := run b tp (tp.length - p) p
theorem rn_stop {b : Nat → Bool} {tp : List Nat} {p : Nat} (h : ¬ (p < tp.length ∧ b (tp.getD p 0) = true)) : rn b tp p = p := by
  unfold rn
  generalize tp.length - p = n
  cases n with
  | zero => rfl
  | succ n => rw [run, if_neg h]
theorem rn_step {b : Nat → Bool} {tp : List Nat} {p : Nat} (h1 : p < tp.length) (h2 : b (tp.getD p 0) = true) : rn b tp p = rn b tp (p + 1) := by
  unfold rn
  rw [show tp.length - p = (tp.length - (p + 1)) + 1 by omega, run, if_pos ⟨h1, h2⟩]
theorem rn_all {b : Nat → Bool} {tp : List Nat} : ∀ n p, tp.length - p = n → p ≤ rn b tp p ∧ (p ≤ tp.length → rn b tp p ≤ tp.length) ∧ ¬ (rn b tp p < tp.length ∧ b (tp.getD (rn b tp p) 0) = true) ∧ ∀ q, p ≤ q → q < rn b tp p → b (tp.getD q 0) = true
  | 0, p, h => by
    rw [rn_stop (by omega)]
    exact ⟨Nat.le_refl _, fun h => h, by omega, fun q h1 h2 => by omega⟩
  | n + 1, p, h => by
    by_cases c : b (tp.getD p 0) = true
    · rw [rn_step (by omega) c]
      obtain ⟨i1, i2, i3, i4⟩ := rn_all (b := b) (tp := tp) n (p + 1) (by omega)
      refine ⟨by omega, fun _ => i2 (by omega), i3, fun q h1 h2 => ?_⟩
      by_cases e : q = p
      · subst e; exact c
      · exact i4 q (by omega) h2
    · rw [rn_stop (fun z => c z.2)]
      exact ⟨Nat.le_refl _, fun h => h, fun z => c z.2, fun q h1 h2 => by omega⟩
theorem rn_ge (b : Nat → Bool) (tp : List Nat) (p : Nat) : p ≤ rn b tp p := (rn_all _ p rfl).1
theorem rn_le {b : Nat → Bool} {tp : List Nat} {p : Nat} (h : p ≤ tp.length) : rn b tp p ≤ tp.length := (rn_all _ p rfl).2.1 h
theorem rn_out (b : Nat → Bool) (tp : List Nat) (p : Nat) : ¬ (rn b tp p < tp.length ∧ b (tp.getD (rn b tp p) 0) = true) := (rn_all _ p rfl).2.2.1
theorem rn_in {b : Nat → Bool} {tp : List Nat} {p q : Nat} (h1 : p ≤ q) (h2 : q < rn b tp p) : b (tp.getD q 0) = true := (rn_all _ p rfl).2.2.2 q h1 h2
def ltr (tp : List Nat) (p : Nat) : Nat → List Nat
  | 0 => []
  | n + 1 => ltr tp p n ++ [tp.getD (p + n) 0 - 96]
def dgs (tp : List Nat) (p : Nat) : Nat → Nat
  | 0 => 0
  | n + 1 => dgs tp p n * 10 + (tp.getD (p + n) 0 - 48)
theorem ltr_len {tp : List Nat} {p : Nat} : ∀ n, (ltr tp p n).length = n
  | 0 => rfl
  | n + 1 => by rw [ltr, List.length_append, ltr_len n]; rfl
theorem ltr_mem {tp : List Nat} {p : Nat} : ∀ n, (∀ j, j < n → isLe (tp.getD (p + j) 0) = true) → ∀ c ∈ ltr tp p n, 1 ≤ c ∧ c ≤ 26
  | 0, _, c, hc => absurd hc List.not_mem_nil
  | n + 1, h, c, hc => by
    rw [ltr, List.mem_append, List.mem_singleton] at hc
    rcases hc with hc | hc
    · exact ltr_mem n (fun j hj => h j (by omega)) c hc
    · have h1 := h n (by omega)
      unfold isLe at h1
      rw [decide_eq_true_eq] at h1
      omega
theorem dgs_lt {tp : List Nat} {p : Nat} : ∀ n, (∀ j, j < n → isDg (tp.getD (p + j) 0) = true) → dgs tp p n < 10 ^ n
  | 0, _ => (by decide : (0 : Nat) < 1)
  | n + 1, h => by
    have h1 := h n (by omega)
    unfold isDg at h1
    rw [decide_eq_true_eq] at h1
    have h2 := dgs_lt (tp := tp) (p := p) n (fun j hj => h j (by omega))
    rw [dgs, Nat.pow_succ]
    omega
-- words by their letters
def wls : List (List Nat) := [[8, 15, 21, 19, 5], [23, 1, 12, 12], [6, 1, 13, 9, 12, 25], [12, 15, 21, 4], [5, 1, 18, 19], [3, 15, 9, 14, 19], [12, 9, 11, 5], [8, 1, 20, 5], [15, 23, 5, 19], [1, 16, 1, 18, 20], [2, 5, 19, 9, 4, 5], [14, 15, 9, 19, 5], [10, 15, 25], [8, 5, 4, 7, 5], [4, 18, 1, 23], [19, 23, 1, 16], [12, 5, 14, 4], [16, 1, 25], [16, 12, 1, 9, 14], [6, 9, 4, 4, 12, 5, 18], [19, 12, 5, 5, 16, 5, 18], [12, 1, 23, 25, 5, 18], [14, 15, 20], [1, 14, 4], [15, 18], [12, 15, 21, 4, 14, 5, 19, 19], [8, 5, 1, 18, 9, 14, 7], [2, 18, 9, 3, 11], [6, 15, 14, 4], [6, 5, 12, 20], [14, 5, 1, 18], [13, 9, 14, 5], [8, 9, 19]]
def wfi (l : List Nat) : Nat → Nat
  | 0 => 33
  | j + 1 => if wls.getD j [] = l then j else wfi l j
def wix (l : List Nat) : Nat := wfi l 33
theorem wls_32 : ∀ k, k < 33 → q_wl64.getD k 0 = lN (e32 (wls.getD k [])) := by decide +kernel
theorem wls_37 : ∀ k, k < 33 → q_w37.getD k 0 = lN (e37 (wls.getD k [])) := by decide +kernel
theorem wls_ok : ∀ k, k < 33 → (wls.getD k []).length ≤ 8 ∧ ∀ c ∈ wls.getD k [], 1 ≤ c ∧ c ≤ 26 := by decide +kernel
theorem wls_inj : ∀ k, k < 33 → ∀ j, j < 33 → wls.getD k [] = wls.getD j [] → k = j := by decide +kernel
theorem wfi_cases {l : List Nat} : ∀ n, n ≤ 33 → (wfi l n = 33 ∧ ∀ j, j < n → ¬ wls.getD j [] = l) ∨ (wfi l n < n ∧ wls.getD (wfi l n) [] = l)
  | 0, _ => Or.inl ⟨rfl, fun j h => absurd h (Nat.not_lt_zero j)⟩
  | n + 1, hn => by
    by_cases c : wls.getD n [] = l
    · rw [wfi, if_pos c]
      exact Or.inr ⟨Nat.lt_succ_self n, c⟩
    · rw [wfi, if_neg c]
      rcases wfi_cases (l := l) n (by omega) with ⟨h1, h2⟩ | ⟨h1, h2⟩
      · refine Or.inl ⟨h1, fun j hj => ?_⟩
        by_cases e : j = n
        · subst e; exact c
        · exact h2 j (by omega)
      · exact Or.inr ⟨by omega, h2⟩
theorem wix_eq {l : List Nat} {w : Nat} (hw : w < 33) : wls.getD w [] = l ↔ wix l = w := by
  unfold wix
  rcases wfi_cases (l := l) 33 (Nat.le_refl _) with ⟨h1, h2⟩ | ⟨h1, h2⟩
  · exact ⟨fun z => absurd z (h2 w hw), fun z => by omega⟩
  · exact ⟨fun z => wls_inj _ h1 _ hw (h2.trans z.symm), fun z => by rw [← z]; exact h2⟩
theorem wix_le (l : List Nat) : wix l ≤ 33 := by
  unfold wix
  rcases wfi_cases (l := l) 33 (Nat.le_refl _) with ⟨h1, h2⟩ | ⟨h1, h2⟩ <;> omega
-- letters as numbers
def erv (B : Nat) : List Nat → Nat
  | [] => 0
  | x :: l => erv B l * B + x
theorem erv_inj {B : Nat} (hB : 27 ≤ B) : ∀ l l' : List Nat, (∀ c ∈ l, 1 ≤ c ∧ c ≤ 26) → (∀ c ∈ l', 1 ≤ c ∧ c ≤ 26) → erv B l = erv B l' → l = l'
  | [], [], _, _, _ => rfl
  | [], y :: l', _, h2, h => by
    have := h2 y (List.mem_cons_self ..)
    rw [erv, erv] at h
    omega
  | x :: l, [], h1, _, h => by
    have := h1 x (List.mem_cons_self ..)
    rw [erv, erv] at h
    omega
  | x :: l, y :: l', h1, h2, h => by
    have a1 := h1 x (List.mem_cons_self ..)
    have a2 := h2 y (List.mem_cons_self ..)
    rw [erv, erv] at h
    have m1 : (erv B l * B + x) % B = x := by rw [Nat.mul_comm, Nat.mul_add_mod]; exact Nat.mod_eq_of_lt (by omega)
    have m2 : (erv B l' * B + y) % B = y := by rw [Nat.mul_comm, Nat.mul_add_mod]; exact Nat.mod_eq_of_lt (by omega)
    have e1 : x = y := by rw [← m1, h, m2]
    have e2 : erv B l * B = erv B l' * B := by omega
    have e3 := Nat.eq_of_mul_eq_mul_right (by omega) e2
    rw [e1, erv_inj hB l l' (fun c hc => h1 c (List.mem_cons_of_mem _ hc)) (fun c hc => h2 c (List.mem_cons_of_mem _ hc)) e3]
theorem erv_lt {B : Nat} (hB : 27 ≤ B) : ∀ l : List Nat, (∀ c ∈ l, 1 ≤ c ∧ c ≤ 26) → erv B l < B ^ l.length
  | [], _ => by simp [erv]
  | x :: l, h => by
    have a1 := h x (List.mem_cons_self ..)
    have i := erv_lt hB l (fun c hc => h c (List.mem_cons_of_mem _ hc))
    rw [erv, List.length_cons, Nat.pow_succ]
    have : (erv B l + 1) * B ≤ B ^ l.length * B := Nat.mul_le_mul_right B i
    rw [Nat.add_mul] at this
    omega
theorem e32_s (l : List Nat) (x : Nat) : e32 (l ++ [x]) = e32 l * 32 + x := by unfold e32; rw [List.foldl_append]; rfl
theorem e37_s (l : List Nat) (x : Nat) : e37 (l ++ [x]) = 37 * e37 l + x := by unfold e37; rw [List.foldl_append]; rfl
theorem e32_r : ∀ l : List Nat, e32 l.reverse = erv 32 l
  | [] => rfl
  | x :: l => by rw [List.reverse_cons, e32_s, e32_r l, erv]
theorem e37_r : ∀ l : List Nat, e37 l.reverse = erv 37 l
  | [] => rfl
  | x :: l => by rw [List.reverse_cons, e37_s, e37_r l, erv, Nat.mul_comm]
theorem e32_v (l : List Nat) : e32 l = erv 32 l.reverse := by rw [← e32_r, List.reverse_reverse]
theorem e37_v (l : List Nat) : e37 l = erv 37 l.reverse := by rw [← e37_r, List.reverse_reverse]
def okL (l : List Nat) : Prop := l.length ≤ 8 ∧ ∀ c ∈ l, 1 ≤ c ∧ c ≤ 26
theorem okL.rv {l : List Nat} (h : okL l) : ∀ c ∈ l.reverse, 1 ≤ c ∧ c ≤ 26 := fun c hc => h.2 c (List.mem_reverse.mp hc)
theorem e32_lt {l : List Nat} (h : okL l) : e32 l < 2 ^ 40 := by
  rw [e32_v]
  have h1 := erv_lt (B := 32) (by decide) l.reverse h.rv
  have h2 : 32 ^ l.reverse.length ≤ 32 ^ 8 := Nat.pow_le_pow_right (by decide) (by rw [List.length_reverse]; exact h.1)
  have h3 : (32 : Nat) ^ 8 = 2 ^ 40 := by decide
  omega
theorem e37_lt {l : List Nat} (h : okL l) : e37 l < 2 ^ 42 := by
  rw [e37_v]
  have h1 := erv_lt (B := 37) (by decide) l.reverse h.rv
  have h2 : 37 ^ l.reverse.length ≤ 37 ^ 8 := Nat.pow_le_pow_right (by decide) (by rw [List.length_reverse]; exact h.1)
  have h3 : (37 : Nat) ^ 8 < 2 ^ 42 := by decide
  omega
theorem e32_eq {l l' : List Nat} (h : okL l) (h' : okL l') : lN (e32 l) = lN (e32 l') ↔ l = l' := by
  have a := e32_lt h
  have b := e32_lt h'
  rw [pk_lEQ (by omega) (by omega)]
  refine ⟨fun z => ?_, fun z => by rw [z]⟩
  rw [e32_v, e32_v] at z
  exact List.reverse_inj.mp (erv_inj (by decide) _ _ h.rv h'.rv z)
theorem e37_eq {l l' : List Nat} (h : okL l) (h' : okL l') : lN (e37 l) = lN (e37 l') ↔ l = l' := by
  have a := e37_lt h
  have b := e37_lt h'
  rw [pk_lEQ (by omega) (by omega)]
  refine ⟨fun z => ?_, fun z => by rw [z]⟩
  rw [e37_v, e37_v] at z
  exact List.reverse_inj.mp (erv_inj (by decide) _ _ h.rv h'.rv z)
theorem e32_0 {l : List Nat} (h : okL l) (h0 : l ≠ []) : ¬ lN 0 = lN (e32 l) := by
  have : okL [] := ⟨by decide, fun c hc => absurd hc List.not_mem_nil⟩
  exact fun z => h0 ((e32_eq this h).mp z).symm
theorem wls_okL {k : Nat} (h : k < 33) : okL (wls.getD k []) := wls_ok k h
-- a token at a place, and the place behind it
def tkA (tp : List Nat) (p : Nat) : q_tk × Nat :=
  if p < tp.length then
    if isLe (tp.getD p 0) = true then ((if rn isLe tp p - p ≤ 8 then 1 else 4, p, wix (ltr tp p (rn isLe tp p - p)), ltr tp p (rn isLe tp p - p)), rn isLe tp p)
    else if isDg (tp.getD p 0) = true then ((if rn isDg tp p - p ≤ 4 then 2 else 4, p, dgs tp p (rn isDg tp p - p), []), rn isDg tp p)
    else ((if isSg (tp.getD p 0) = true then 3 else 4, p, tp.getD p 0, []), p + 1)
  else ((0, p, 0, []), p)
def ps (tp : List Nat) : Nat → Nat
  | 0 => rn isBl tp 0
  | i + 1 => rn isBl tp (tkA tp (ps tp i)).2
def tk (tp : List Nat) (i : Nat) : q_tk := (tkA tp (ps tp i)).1
theorem tkA_nx {tp : List Nat} {p : Nat} (h : p < tp.length) : p < (tkA tp p).2 ∧ (tkA tp p).2 ≤ tp.length := by
  unfold tkA
  rw [if_pos h]
  by_cases c1 : isLe (tp.getD p 0) = true
  · rw [if_pos c1]
    show p < rn isLe tp p ∧ rn isLe tp p ≤ tp.length
    have := rn_ge isLe tp (p + 1)
    have h2 := rn_le (b := isLe) (tp := tp) (p := p + 1) (by omega)
    rw [rn_step h c1]
    omega
  · rw [if_neg c1]
    by_cases c2 : isDg (tp.getD p 0) = true
    · rw [if_pos c2]
      show p < rn isDg tp p ∧ rn isDg tp p ≤ tp.length
      have := rn_ge isDg tp (p + 1)
      have h2 := rn_le (b := isDg) (tp := tp) (p := p + 1) (by omega)
      rw [rn_step h c2]
      omega
    · rw [if_neg c2]
      show p < p + 1 ∧ p + 1 ≤ tp.length
      omega
theorem tkA_end {tp : List Nat} {p : Nat} (h : ¬ p < tp.length) : tkA tp p = ((0, p, 0, []), p) := by unfold tkA; rw [if_neg h]
theorem tkA_sort {tp : List Nat} {p : Nat} (h : p < tp.length) : 1 ≤ (tkA tp p).1.1 ∧ (tkA tp p).1.1 ≤ 4 := by
  unfold tkA
  rw [if_pos h]
  split
  · show 1 ≤ (if _ then 1 else 4) ∧ (if _ then 1 else 4) ≤ 4
    split <;> decide
  · split
    · show 1 ≤ (if _ then 2 else 4) ∧ (if _ then 2 else 4) ≤ 4
      split <;> decide
    · show 1 ≤ (if _ then 3 else 4) ∧ (if _ then 3 else 4) ≤ 4
      split <;> decide
theorem tkA_pl (tp : List Nat) (p : Nat) : (tkA tp p).1.2.1 = p := by
  unfold tkA
  split
  · split
    · rfl
    · split <;> rfl
  · rfl
theorem tkA_w {tp : List Nat} {p : Nat} (h : (tkA tp p).1.1 = 1) : okL (tkA tp p).1.2.2.2 ∧ (tkA tp p).1.2.2.2 ≠ [] ∧ (tkA tp p).1.2.2.1 = wix (tkA tp p).1.2.2.2 := by
  by_cases c0 : p < tp.length
  · by_cases c1 : isLe (tp.getD p 0) = true
    · have e : tkA tp p = ((if rn isLe tp p - p ≤ 8 then 1 else 4, p, wix (ltr tp p (rn isLe tp p - p)), ltr tp p (rn isLe tp p - p)), rn isLe tp p) := by unfold tkA; rw [if_pos c0, if_pos c1]
      rw [e] at h ⊢
      have h8 : rn isLe tp p - p ≤ 8 := by
        refine Classical.byContradiction (fun z => ?_)
        have h : (if rn isLe tp p - p ≤ 8 then 1 else 4) = 1 := h
        rw [if_neg z] at h
        exact absurd h (by decide)
      refine ⟨⟨by rw [ltr_len]; exact h8, ltr_mem _ (fun j hj => rn_in (p := p) (by omega) (by omega))⟩, fun z => ?_, rfl⟩
      have z := congrArg List.length z
      have z : (ltr tp p (rn isLe tp p - p)).length = 0 := z
      rw [ltr_len, rn_step c0 c1] at z
      have := rn_ge isLe tp (p + 1)
      omega
    · exfalso
      unfold tkA at h
      rw [if_pos c0, if_neg c1] at h
      split at h
      · have h : (if _ then 2 else 4) = 1 := h
        split at h <;> exact absurd h (by decide)
      · have h : (if _ then 3 else 4) = 1 := h
        split at h <;> exact absurd h (by decide)
  · rw [tkA_end c0] at h
    exact absurd (show (0 : Nat) = 1 from h) (by decide)
theorem tkA_n {tp : List Nat} {p : Nat} (h : (tkA tp p).1.1 = 2) : (tkA tp p).1.2.2.1 < 10000 := by
  by_cases c0 : p < tp.length
  · by_cases c1 : isLe (tp.getD p 0) = true
    · exfalso
      unfold tkA at h
      rw [if_pos c0, if_pos c1] at h
      have h : (if _ then 1 else 4) = 2 := h
      split at h <;> exact absurd h (by decide)
    · by_cases c2 : isDg (tp.getD p 0) = true
      · have e : tkA tp p = ((if rn isDg tp p - p ≤ 4 then 2 else 4, p, dgs tp p (rn isDg tp p - p), []), rn isDg tp p) := by unfold tkA; rw [if_pos c0, if_neg c1, if_pos c2]
        rw [e] at h ⊢
        have h4 : rn isDg tp p - p ≤ 4 := by
          refine Classical.byContradiction (fun z => ?_)
          have h : (if rn isDg tp p - p ≤ 4 then 2 else 4) = 2 := h
          rw [if_neg z] at h
          exact absurd h (by decide)
        show dgs tp p (rn isDg tp p - p) < 10000
        have h1 := dgs_lt (tp := tp) (p := p) (rn isDg tp p - p) (fun j hj => rn_in (p := p) (by omega) (by omega))
        have h2 : 10 ^ (rn isDg tp p - p) ≤ 10 ^ 4 := Nat.pow_le_pow_right (by decide) h4
        omega
      · exfalso
        unfold tkA at h
        rw [if_pos c0, if_neg c1, if_neg c2] at h
        have h : (if _ then 3 else 4) = 2 := h
        split at h <;> exact absurd h (by decide)
  · rw [tkA_end c0] at h
    exact absurd (show (0 : Nat) = 2 from h) (by decide)
theorem ps_le {tp : List Nat} : ∀ i, ps tp i ≤ tp.length
  | 0 => rn_le (Nat.zero_le _)
  | i + 1 => by
    rw [ps]
    refine rn_le ?_
    by_cases c : ps tp i < tp.length
    · exact (tkA_nx c).2
    · rw [tkA_end c]; exact ps_le i
theorem ps_lt {tp : List Nat} {i : Nat} (h : ps tp i < tp.length) : ps tp i < ps tp (i + 1) := by
  rw [ps]
  exact Nat.lt_of_lt_of_le (tkA_nx h).1 (rn_ge _ _ _)
def IsM (tp : List Nat) (m : Nat) : Prop := ps tp m = tp.length ∧ ∀ j, j < m → ps tp j < tp.length
theorem ps_grow {tp : List Nat} : ∀ i, (∀ j, j < i → ps tp j < tp.length) → i ≤ ps tp i
  | 0, _ => Nat.zero_le _
  | i + 1, h => by
    have := ps_grow i (fun j hj => h j (by omega))
    have := ps_lt (h i (by omega))
    omega
theorem IsM_ex (tp : List Nat) : ∃ m, IsM tp m ∧ m ≤ tp.length := by
  obtain ⟨m, h1, h2⟩ := pk_least (fun k => ps tp k = tp.length) (Classical.byContradiction (fun z => by
    have z : ∀ k, ps tp k < tp.length := fun k => by
      have := ps_le (tp := tp) k
      have : ps tp k ≠ tp.length := fun e => z ⟨k, e⟩
      omega
    have := ps_grow (tp := tp) tp.length (fun j _ => z j)
    have := z tp.length
    omega))
  have h3 : ∀ j, j < m → ps tp j < tp.length := fun j hj => by
    have := ps_le (tp := tp) j
    have := h2 j hj
    omega
  refine ⟨m, ⟨h1, h3⟩, ?_⟩
  have := ps_grow m h3
  omega
theorem tk_end {tp : List Nat} {m : Nat} (h : IsM tp m) : tk tp m = (0, tp.length, 0, []) := by
  unfold tk
  rw [h.1, tkA_end (Nat.lt_irrefl _)]
theorem tk_in {tp : List Nat} {m i : Nat} (h : IsM tp m) (hi : i ≤ m) (hs : (tk tp i).1 ≠ 0) : i < m := by
  refine Nat.lt_of_le_of_ne hi (fun e => ?_)
  subst e
  rw [tk_end h] at hs
  exact hs rfl
theorem tk_sort {tp : List Nat} (i : Nat) : (tk tp i).1 ≤ 4 := by
  unfold tk
  by_cases c : ps tp i < tp.length
  · exact (tkA_sort c).2
  · rw [tkA_end c]; exact Nat.zero_le _
theorem tk_pl (tp : List Nat) (i : Nat) : (tk tp i).2.1 = ps tp i := tkA_pl tp _
