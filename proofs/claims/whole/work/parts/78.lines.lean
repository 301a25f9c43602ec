-- towns told: what a line does (what is wrong or 0, the token behind or the wrong one, what is told)
abbrev q_ts : Type := (Nat → Nat) × (Nat → List Int32) × (Nat → Bool) × q_nm
abbrev q_lr : Type := Nat × Nat × q_ts
def lkN (N : q_nm) (l : List Nat) : Option Nat := (N.find? (fun x => decide (x.1 = l))).map (fun x => x.2)
def tdL (N : q_nm) (b : Nat) (l : List Nat) : Option Nat := match lkN N l with
  | some v => if b ≤ v ∧ v < b + 20 then some (v - b) else none
  | none => none
def tdF (N : q_nm) (b : Nat) (T : q_tk) : Nat := if isNm T = true then (if (tdL N b T.2.2.2).isSome = true then 0 else 2) else 1
def tdX (N : q_nm) (b : Nat) (T : q_tk) : Nat := (tdL N b T.2.2.2).getD 0
def twF (tp : List Nat) (N : q_nm) (b i : Nat) : Nat × Nat := if tdF N b (tk tp i) = 0 then (if tdF N b (tk tp (i + 1)) = 0 then (if tdX N b (tk tp i) = tdX N b (tk tp (i + 1)) then (3, i + 1) else (0, i + 1)) else (tdF N b (tk tp (i + 1)), i + 1)) else (tdF N b (tk tp i), i)
def nwF (N : q_nm) (T : q_tk) : Nat := if isNm T = true then (if (lkN N T.2.2.2).isSome = true then 3 else 0) else 1
def updP (P : Nat → List Int32) (w : Nat) (c : List Int32) : Nat → List Int32 := fun k => if k = w then c else P k
def updB (P : Nat → Bool) (w : Nat) : Nat → Bool := fun k => if k = w then true else P k
def lnH (tp : List Nat) (s : q_ts) (i : Nat) : q_lr := if 6 ≤ s.1 0 then (5, i, s) else if nwF s.2.2.2 (tk tp (i + 1)) = 0 then (0, i + 2, (updN s.1 0 (s.1 0 + 1), s.2.1, s.2.2.1, s.2.2.2 ++ [((tk tp (i + 1)).2.2.2, s.1 0)])) else (nwF s.2.2.2 (tk tp (i + 1)), i + 1, s)
def wlD (D : Nat → Nat) (a b v : Nat) : Nat → Nat := updN (updN (updN D (8 + (a * 6 + b)) v) (8 + (b * 6 + a)) v) 2 (D 2 + 1)
def lnW (tp : List Nat) (s : q_ts) (i : Nat) : q_lr :=
  if (twF tp s.2.2.2 0 (i + 1)).1 = 0 then
    if s.1 (8 + (tdX s.2.2.2 0 (tk tp (i + 1)) * 6 + tdX s.2.2.2 0 (tk tp (i + 2)))) = 0 then
      if nmF (tk tp (i + 3)) 1 9 = 0 then (0, i + 4, (wlD s.1 (tdX s.2.2.2 0 (tk tp (i + 1))) (tdX s.2.2.2 0 (tk tp (i + 2))) (tk tp (i + 3)).2.2.1, s.2))
      else (nmF (tk tp (i + 3)) 1 9, i + 3, s)
    else (3, i + 2, s)
  else ((twF tp s.2.2.2 0 (i + 1)).1, (twF tp s.2.2.2 0 (i + 1)).2, s)
-- of a family: word, number
def trF (tp : List Nat) (w hi i : Nat) : Nat × Nat := if isW (tk tp i) w = true then (if nmF (tk tp (i + 1)) 0 hi = 0 then (0, i + 2) else (nmF (tk tp (i + 1)) 0 hi, i + 1)) else (1, i)
def fmF (tp : List Nat) (N : q_nm) (i : Nat) : Nat × Nat :=
  if nwF N (tk tp (i + 1)) = 0 then
    if kdT (tk tp (i + 2)) = -1 then (1, i + 2)
    else if (trF tp 3 9 (i + 3)).1 = 0 then
      if (trF tp 4 9 (i + 5)).1 = 0 then trF tp 5 999 (i + 7)
      else trF tp 4 9 (i + 5)
    else trF tp 3 9 (i + 3)
  else (nwF N (tk tp (i + 1)), i + 1)
def fmD (D : Nat → Nat) (n k l e c : Nat) : Nat → Nat := updN (updN (updN (updN (updN D (44 + 4 * n) k) (45 + 4 * n) l) (46 + 4 * n) e) (47 + 4 * n) c) 1 (n + 1)
def lnF (tp : List Nat) (s : q_ts) (i : Nat) : q_lr :=
  if s.1 0 ≤ s.1 1 then (5, i, s)
  else if (fmF tp s.2.2.2 i).1 = 0 then (0, i + 9, (fmD s.1 (s.1 1) ((tk tp (i + 2)).2.2.1 - 18) (tk tp (i + 4)).2.2.1 (tk tp (i + 6)).2.2.1 (tk tp (i + 8)).2.2.1, s.2.1, s.2.2.1, s.2.2.2 ++ [((tk tp (i + 1)).2.2.2, 20 + s.1 1)]))
  else ((fmF tp s.2.2.2 i).1, (fmF tp s.2.2.2 i).2, s)
def lnT (tp : List Nat) (s : q_ts) (b hi i : Nat) : q_lr :=
  if (twF tp s.2.2.2 20 (i + 1)).1 = 0 then
    if s.1 (b + (tdX s.2.2.2 20 (tk tp (i + 1)) * 6 + tdX s.2.2.2 20 (tk tp (i + 2)))) = 0 then
      if nmF (tk tp (i + 3)) 1 hi = 0 then (0, i + 4, (updN s.1 (b + (tdX s.2.2.2 20 (tk tp (i + 1)) * 6 + tdX s.2.2.2 20 (tk tp (i + 2)))) (tk tp (i + 3)).2.2.1, s.2))
      else (nmF (tk tp (i + 3)) 1 hi, i + 3, s)
    else (3, i + 2, s)
  else ((twF tp s.2.2.2 20 (i + 1)).1, (twF tp s.2.2.2 20 (i + 1)).2, s)
def cuD (D : Nat → Nat) (x a b : Nat) : Nat → Nat := updN (updN (updN D (176 + 8 * x + 2 * D (3 + x)) a) (177 + 8 * x + 2 * D (3 + x)) b) (3 + x) (D (3 + x) + 1)
def lnC (tp : List Nat) (s : q_ts) (x i : Nat) : q_lr :=
  if 4 ≤ s.1 (3 + x) then (5, i, s)
  else if (twF tp s.2.2.2 20 (i + 1)).1 = 0 then (0, i + 3, (cuD s.1 x (tdX s.2.2.2 20 (tk tp (i + 1))) (tdX s.2.2.2 20 (tk tp (i + 2))), s.2))
  else ((twF tp s.2.2.2 20 (i + 1)).1, (twF tp s.2.2.2 20 (i + 1)).2, s)
def lnL (tp : List Nat) (s : q_ts) (w i : Nat) : q_lr :=
  if s.2.2.1 w = true then (3, i, s)
  else if (ex tp w (8 * tp.length + 8) 0 0 (i + 1)).1 = 0 then (0, (ex tp w (8 * tp.length + 8) 0 0 (i + 1)).2.1, (s.1, updP s.2.1 w (ex tp w (8 * tp.length + 8) 0 0 (i + 1)).2.2, updB s.2.2.1 w, s.2.2.2))
  else ((ex tp w (8 * tp.length + 8) 0 0 (i + 1)).1, (ex tp w (8 * tp.length + 8) 0 0 (i + 1)).2.1, s)
def lnA (tp : List Nat) (s : q_ts) (i : Nat) : q_lr :=
  if isW (tk tp i) 0 = true then lnH tp s i
  else if isW (tk tp i) 1 = true then lnW tp s i
  else if isW (tk tp i) 2 = true then lnF tp s i
  else if isW (tk tp i) 6 = true then lnT tp s 68 9 i
  else if isW (tk tp i) 7 = true then lnT tp s 104 9 i
  else if isW (tk tp i) 8 = true then lnT tp s 140 99 i
  else if isW (tk tp i) 9 = true then lnC tp s 0 i
  else if isW (tk tp i) 10 = true then lnC tp s 1 i
  else if isW (tk tp i) 11 = true then lnL tp s 0 i
  else if isW (tk tp i) 12 = true then lnL tp s 1 i
  else if isW (tk tp i) 13 = true then lnL tp s 2 i
  else (1, i, s)
def tnA (tp : List Nat) : Nat → q_ts → Nat → q_lr
  | 0, s, i => (9, i, s)
  | n + 1, s, i => if (tk tp i).1 = 0 then (0, i, s)
    else if (lnA tp s i).1 = 0 then (if isS (tk tp (lnA tp s i).2.1) 59 = true then tnA tp n (lnA tp s i).2.2 ((lnA tp s i).2.1 + 1) else (1, (lnA tp s i).2.1, s))
    else ((lnA tp s i).1, (lnA tp s i).2.1, s)
def ts0 : q_ts := (fun _ => 0, dflt, fun _ => false, [])
-- what a town in telling keeps
def WS (s : q_ts) : Prop := WfD s.1 ∧ WfW s.1 ∧ WN s.1 s.2.2.2 ∧ s.2.2.2.length = s.1 0 + s.1 1 ∧ WfP s.2.1
theorem lkN_mem {N : q_nm} {l : List Nat} {v : Nat} (hN : ∀ x ∈ N, ∀ y ∈ N, x.1 = y.1 ∨ x.2 = y.2 → x = y) : lkN N l = some v ↔ (l, v) ∈ N := by
  unfold lkN
  constructor
  · intro h
    cases e : N.find? (fun x => decide (x.1 = l)) with
    | none => rw [e] at h; exact absurd h (by simp)
    | some x =>
      rw [e] at h
      have h : x.2 = v := Option.some.inj h
      have h1 : x.1 = l := of_decide_eq_true (List.find?_some (p := fun (x : List Nat × Nat) => decide (x.1 = l)) e)
      have h2 := List.mem_of_find?_eq_some e
      rw [← h1, ← h]
      exact h2
  · intro h
    cases e : N.find? (fun x => decide (x.1 = l)) with
    | none =>
      have := List.find?_eq_none.mp e (l, v) h
      exact absurd (decide_eq_true rfl) this
    | some x =>
      have h1 : x.1 = l := of_decide_eq_true (List.find?_some (p := fun (x : List Nat × Nat) => decide (x.1 = l)) e)
      have h2 := List.mem_of_find?_eq_some e
      have := hN x h2 (l, v) h (Or.inl h1)
      rw [this]
      rfl
theorem tdL_some {N : q_nm} {l : List Nat} {b v : Nat} (hN : ∀ x ∈ N, ∀ y ∈ N, x.1 = y.1 ∨ x.2 = y.2 → x = y) : tdL N b l = some v ↔ (l, b + v) ∈ N ∧ v < 20 := by
  unfold tdL
  cases e : lkN N l with
  | none =>
    refine ⟨fun h => absurd h (by simp), fun h => ?_⟩
    have := (lkN_mem hN).mpr h.1
    rw [e] at this
    exact absurd this (by simp)
  | some u =>
    have hu := (lkN_mem hN).mp e
    by_cases c : b ≤ u ∧ u < b + 20
    · show (if b ≤ u ∧ u < b + 20 then some (u - b) else none) = some v ↔ _
      rw [if_pos c]
      refine ⟨fun h => ?_, fun h => ?_⟩
      · have h : u - b = v := Option.some.inj h
        have : b + v = u := by omega
        rw [this]
        exact ⟨hu, by omega⟩
      · have := hN _ hu _ h.1 (Or.inl rfl)
        have : u = b + v := congrArg Prod.snd this
        congr 1
        omega
    · show (if b ≤ u ∧ u < b + 20 then some (u - b) else none) = some v ↔ _
      rw [if_neg c]
      refine ⟨fun h => absurd h (by simp), fun h => ?_⟩
      have := hN _ hu _ h.1 (Or.inl rfl)
      have : u = b + v := congrArg Prod.snd this
      omega
theorem tdX_lt {D : Nat → Nat} {N : q_nm} {T : q_tk} (hD : WfD D) (hN : WN D N) : (tdF N 0 T = 0 → tdX N 0 T < D 0 ∧ (T.2.2.2, tdX N 0 T) ∈ N) ∧ (tdF N 20 T = 0 → tdX N 20 T < D 1 ∧ (T.2.2.2, 20 + tdX N 20 T) ∈ N) := by
  have h6 := hD.F6
  have h0 := hD.2.1
  have key : ∀ b, tdF N b T = 0 → (T.2.2.2, b + tdX N b T) ∈ N ∧ tdX N b T < 20 := fun b h => by
    unfold tdF at h
    by_cases c : isNm T = true
    · rw [if_pos c] at h
      by_cases c2 : (tdL N b T.2.2.2).isSome = true
      · obtain ⟨v, hv⟩ := Option.isSome_iff_exists.mp c2
        unfold tdX
        rw [hv]
        exact (tdL_some hN.2.2.1).mp hv
      · rw [if_neg c2] at h
        exact absurd h (by decide)
    · rw [if_neg c] at h
      exact absurd h (by decide)
  refine ⟨fun h => ?_, fun h => ?_⟩
  · obtain ⟨k1, k2⟩ := key 0 h
    rw [Nat.zero_add] at k1
    refine ⟨?_, k1⟩
    have h1 : tdX N 0 T < D 0 ∨ (20 ≤ tdX N 0 T ∧ tdX N 0 T < 20 + D 1) := (hN.2.1 _ k1).1
    omega
  · obtain ⟨k1, k2⟩ := key 20 h
    refine ⟨?_, k1⟩
    have h1 : 20 + tdX N 20 T < D 0 ∨ (20 ≤ 20 + tdX N 20 T ∧ 20 + tdX N 20 T < 20 + D 1) := (hN.2.1 _ k1).1
    omega
-- the class's town in telling
def cloc (t i : Nat) : Nat × Nat := if i < 5 then (t, 13 + i) else if i < 44 then (t + 7, i - 8) else if i < 68 then (t + 3 + (i - 44) % 4, (i - 44) / 4) else if i < 104 then (t + 8, i - 68) else if i < 140 then (t + 9, i - 104) else (t + 10, i - 140)
theorem cloc_cases {i : Nat} (t : Nat) (h : i < 176) (h8 : i < 5 ∨ 8 ≤ i) : (i < 5 ∧ cloc t i = (t, 13 + i)) ∨ (8 ≤ i ∧ i < 44 ∧ cloc t i = (t + 7, i - 8)) ∨ (44 ≤ i ∧ i < 68 ∧ cloc t i = (t + 3 + (i - 44) % 4, (i - 44) / 4)) ∨ (68 ≤ i ∧ i < 104 ∧ cloc t i = (t + 8, i - 68)) ∨ (104 ≤ i ∧ i < 140 ∧ cloc t i = (t + 9, i - 104)) ∨ (140 ≤ i ∧ cloc t i = (t + 10, i - 140)) := by
  unfold cloc
  by_cases c1 : i < 5
  · rw [if_pos c1]; exact Or.inl ⟨c1, rfl⟩
  · rw [if_neg c1]
    by_cases c2 : i < 44
    · rw [if_pos c2]; exact Or.inr (Or.inl ⟨by omega, c2, rfl⟩)
    · rw [if_neg c2]
      by_cases c3 : i < 68
      · rw [if_pos c3]; exact Or.inr (Or.inr (Or.inl ⟨by omega, c3, rfl⟩))
      · rw [if_neg c3]
        by_cases c4 : i < 104
        · rw [if_pos c4]; exact Or.inr (Or.inr (Or.inr (Or.inl ⟨by omega, c4, rfl⟩)))
        · rw [if_neg c4]
          by_cases c5 : i < 140
          · rw [if_pos c5]; exact Or.inr (Or.inr (Or.inr (Or.inr (Or.inl ⟨by omega, c5, rfl⟩))))
          · rw [if_neg c5]; exact Or.inr (Or.inr (Or.inr (Or.inr (Or.inr ⟨by omega, rfl⟩))))
theorem cloc_inj {t i j : Nat} (hi : i < 176) (hi8 : i < 5 ∨ 8 ≤ i) (hj : j < 176) (hj8 : j < 5 ∨ 8 ≤ j) (h1 : (cloc t i).1 = (cloc t j).1) (h2 : (cloc t i).2 = (cloc t j).2) : i = j := by
  rcases cloc_cases t hi hi8 with ⟨a, e⟩ | ⟨a, b, e⟩ | ⟨a, b, e⟩ | ⟨a, b, e⟩ | ⟨a, b, e⟩ | ⟨a, e⟩ <;> rcases cloc_cases t hj hj8 with ⟨a', e'⟩ | ⟨a', b', e'⟩ | ⟨a', b', e'⟩ | ⟨a', b', e'⟩ | ⟨a', b', e'⟩ | ⟨a', e'⟩ <;> rw [e, e'] at h1 h2 <;> simp only at h1 h2 <;> omega
theorem cloc_in {t i : Nat} (hi : i < 176) (hi8 : i < 5 ∨ 8 ≤ i) : ((cloc t i).1 = t ∧ 13 ≤ (cloc t i).2 ∧ (cloc t i).2 < 18) ∨ (t + 3 ≤ (cloc t i).1 ∧ (cloc t i).1 ≤ t + 10) := by
  rcases cloc_cases t hi hi8 with ⟨a, e⟩ | ⟨a, b, e⟩ | ⟨a, b, e⟩ | ⟨a, b, e⟩ | ⟨a, b, e⟩ | ⟨a, e⟩ <;> rw [e]
  · exact Or.inl ⟨rfl, Nat.le_add_right _ _, by show 13 + i < 18; omega⟩
  · exact Or.inr ⟨by show t + 3 ≤ t + 7; omega, by show t + 7 ≤ t + 10; omega⟩
  · exact Or.inr ⟨by show t + 3 ≤ t + 3 + (i - 44) % 4; omega, by show t + 3 + (i - 44) % 4 ≤ t + 10; omega⟩
  · exact Or.inr ⟨by show t + 3 ≤ t + 8; omega, by show t + 8 ≤ t + 10; omega⟩
  · exact Or.inr ⟨by show t + 3 ≤ t + 9; omega, by show t + 9 ≤ t + 10; omega⟩
  · exact Or.inr ⟨by show t + 3 ≤ t + 10; omega, Nat.le_refl _⟩
def CTd (σ : q_S) (t : Nat) (D : Nat → Nat) (F : Nat) : Prop := ∀ i, i < 176 → (i < 5 ∨ 8 ≤ i) → (44 + 4 * F ≤ i → 68 ≤ i) → q_I σ (cloc t i).1 (cloc t i).2 = nI (D i)
theorem updN_at (D : Nat → Nat) (i x : Nat) : updN D i x i = x := by simp [updN]
theorem updN_ne {D : Nat → Nat} {i j x : Nat} (h : j ≠ i) : updN D i x j = D j := by simp [updN, h]
theorem CTd.set {σ : q_S} {t j v F : Nat} {D : Nat → Nat} (h : CTd σ t D F) (hj : j < 176) (hj8 : j < 5 ∨ 8 ≤ j) : CTd (q_setI σ (cloc t j).1 (cloc t j).2 (nI v)) t (updN D j v) F := by
  intro i hi hi8 hf
  by_cases e : i = j
  · subst e
    rw [q_I_eq, updN_at]
  · rw [q_I_ne (fun z => e (cloc_inj hi hi8 hj hj8 z.1 z.2)), updN_ne e]
    exact h i hi hi8 hf
def CTc (σ : q_S) (t : Nat) (D : Nat → Nat) : Prop := (∀ k, k < D 3 → q_L σ (t + 11) k = pbit (D (176 + 2 * k)) (D (177 + 2 * k))) ∧ ∀ k, k < D 4 → q_L σ (t + 11) (4 + k) = pbit (D (184 + 2 * k)) (D (185 + 2 * k))
def CLw (σ : q_S) (t : Nat) (P : Nat → List Int32) (td : Nat → Bool) (S : List Int32) : Prop := ∀ w, w < 3 → q_I σ (t + 17) w = (if td w = true then 1 else 0) ∧ ∃ lo hi : Nat, q_I σ (t + 15) w = nI lo ∧ q_I σ (t + 16) w = nI hi ∧ lo ≤ hi ∧ hi ≤ S.length ∧ hi - lo = (P w).length ∧ ∀ j, j < hi - lo → S.getD (lo + j) 0 = (P w).getD j 0
def CTr (σ : q_S) (t : Nat) (s : q_ts) (S : List Int32) : Prop := CTd σ t s.1 (s.1 1) ∧ CTc σ t s.1 ∧ CN σ t s.2.2.2 ∧ CS σ (t + 13) S ∧ CLw σ t s.2.1 s.2.2.1 S
theorem CTr.ct0 {σ : q_S} {t : Nat} {s : q_ts} {S : List Int32} (h : CTr σ t s S) (hD : WfD s.1) (hl : S.length ≤ 1024) : CT0 σ t s.1 s.2.1 := by
  obtain ⟨h1, h2, _, h4, h5⟩ := h
  have h6 := hD.F6
  have at_ : ∀ i, i < 176 → (i < 5 ∨ 8 ≤ i) → (44 + 4 * s.1 1 ≤ i → 68 ≤ i) → ∀ a b, cloc t i = (a, b) → q_I σ a b = nI (s.1 i) := fun i a1 a2 a3 a b e => by
    have := h1 i a1 a2 a3
    rwa [e] at this
  refine ⟨⟨at_ 0 (by decide) (by decide) (by omega) _ _ rfl, at_ 1 (by decide) (by decide) (by omega) _ _ rfl, at_ 2 (by decide) (by decide) (by omega) _ _ rfl, at_ 3 (by decide) (by decide) (by omega) _ _ rfl, at_ 4 (by decide) (by decide) (by omega) _ _ rfl⟩, fun i hi => ?_, fun f hf => ⟨?_, ?_, ?_, ?_⟩, fun i hi => ⟨?_, ?_, ?_⟩, h2.1, h2.2, fun w hw _ => ?_⟩
  · refine at_ (8 + i) (by omega) (by omega) (by omega) _ _ ?_
    rcases cloc_cases t (show 8 + i < 176 by omega) (by omega) with ⟨a, e⟩ | ⟨a, b, e⟩ | ⟨a, b, e⟩ | ⟨a, b, e⟩ | ⟨a, b, e⟩ | ⟨a, e⟩ <;> first | omega | (rw [e, show 8 + i - 8 = i by omega])
  · refine at_ (44 + 4 * f) (by omega) (by omega) (by omega) _ _ ?_
    rcases cloc_cases t (show 44 + 4 * f < 176 by omega) (by omega) with ⟨a, e⟩ | ⟨a, b, e⟩ | ⟨a, b, e⟩ | ⟨a, b, e⟩ | ⟨a, b, e⟩ | ⟨a, e⟩ <;> first | omega | (rw [e, show (44 + 4 * f - 44) % 4 = 0 by omega, show (44 + 4 * f - 44) / 4 = f by omega])
  · refine at_ (45 + 4 * f) (by omega) (by omega) (by omega) _ _ ?_
    rcases cloc_cases t (show 45 + 4 * f < 176 by omega) (by omega) with ⟨a, e⟩ | ⟨a, b, e⟩ | ⟨a, b, e⟩ | ⟨a, b, e⟩ | ⟨a, b, e⟩ | ⟨a, e⟩ <;> first | omega | (rw [e, show (45 + 4 * f - 44) % 4 = 1 by omega, show (45 + 4 * f - 44) / 4 = f by omega])
  · refine at_ (46 + 4 * f) (by omega) (by omega) (by omega) _ _ ?_
    rcases cloc_cases t (show 46 + 4 * f < 176 by omega) (by omega) with ⟨a, e⟩ | ⟨a, b, e⟩ | ⟨a, b, e⟩ | ⟨a, b, e⟩ | ⟨a, b, e⟩ | ⟨a, e⟩ <;> first | omega | (rw [e, show (46 + 4 * f - 44) % 4 = 2 by omega, show (46 + 4 * f - 44) / 4 = f by omega])
  · refine at_ (47 + 4 * f) (by omega) (by omega) (by omega) _ _ ?_
    rcases cloc_cases t (show 47 + 4 * f < 176 by omega) (by omega) with ⟨a, e⟩ | ⟨a, b, e⟩ | ⟨a, b, e⟩ | ⟨a, b, e⟩ | ⟨a, b, e⟩ | ⟨a, e⟩ <;> first | omega | (rw [e, show (47 + 4 * f - 44) % 4 = 3 by omega, show (47 + 4 * f - 44) / 4 = f by omega])
  · refine at_ (68 + i) (by omega) (by omega) (by omega) _ _ ?_
    rcases cloc_cases t (show 68 + i < 176 by omega) (by omega) with ⟨a, e⟩ | ⟨a, b, e⟩ | ⟨a, b, e⟩ | ⟨a, b, e⟩ | ⟨a, b, e⟩ | ⟨a, e⟩ <;> first | omega | (rw [e, show 68 + i - 68 = i by omega])
  · refine at_ (104 + i) (by omega) (by omega) (by omega) _ _ ?_
    rcases cloc_cases t (show 104 + i < 176 by omega) (by omega) with ⟨a, e⟩ | ⟨a, b, e⟩ | ⟨a, b, e⟩ | ⟨a, b, e⟩ | ⟨a, b, e⟩ | ⟨a, e⟩ <;> first | omega | (rw [e, show 104 + i - 104 = i by omega])
  · refine at_ (140 + i) (by omega) (by omega) (by omega) _ _ ?_
    rcases cloc_cases t (show 140 + i < 176 by omega) (by omega) with ⟨a, e⟩ | ⟨a, b, e⟩ | ⟨a, b, e⟩ | ⟨a, b, e⟩ | ⟨a, b, e⟩ | ⟨a, e⟩ <;> first | omega | (rw [e, show 140 + i - 140 = i by omega])
  · obtain ⟨_, lo, hi, b1, b2, b3, b4, b5, b6⟩ := h5 w hw
    refine ⟨lo, hi, b1, b2, b3, by omega, b5, fun j hj => ?_⟩
    rw [show t + 14 = t + 13 + 1 from rfl, h4.2 (lo + j) (by omega)]
    exact b6 j hj
