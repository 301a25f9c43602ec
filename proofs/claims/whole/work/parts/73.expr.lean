-- laws told: how they are read (what is wrong or 0, the token behind or the wrong one, steps)
def fct (w v : Nat) : Nat := if w = 0 then (if v = 25 then 0 else if v = 26 then 1 else if v = 27 then 2 else 3) else if w = 1 then (if v = 28 then 0 else if v = 29 then 1 else if v = 30 then 2 else 3) else (if v = 31 then 0 else if v = 32 then 1 else if v = 28 then 2 else 3)
def isF (w : Nat) (T : q_tk) : Bool := decide (T.1 = 1 ∧ fct w T.2.2.1 < 3)
abbrev q_xr : Type := Nat × Nat × List Int32
def exJ (r : q_xr) (k : Nat → q_xr) : q_xr := if r.1 = 0 then ((k r.2.1).1, (k r.2.1).2.1, r.2.2 ++ (k r.2.1).2.2) else r
def exO (r : q_xr) (o : Int32) : q_xr := if r.1 = 0 then (0, r.2.1, r.2.2 ++ [o]) else r
def ex (tp : List Nat) (w : Nat) : Nat → Nat → Nat → Nat → q_xr
  | 0, _, _, i => (9, i, [])
  | n + 1, m, e, i =>
    if m = 0 then exJ (ex tp w n 2 e i) (fun j => ex tp w n 1 e j)
    else if m = 1 then (if isW (tk tp i) 23 = true then exJ (exO (ex tp w n 2 e (i + 1)) (-5)) (fun j => ex tp w n 1 e j) else if isW (tk tp i) 24 = true then exJ (exO (ex tp w n 2 e (i + 1)) (-6)) (fun j => ex tp w n 1 e j) else (0, i, []))
    else if m = 2 then exJ (ex tp w n 3 e i) (fun j => if isS (tk tp j) 60 = true then exO (ex tp w n 3 e (j + 1)) (-7) else if isS (tk tp j) 61 = true then exO (ex tp w n 3 e (j + 1)) (-8) else (0, j, []))
    else if m = 3 then exJ (ex tp w n 5 e i) (fun j => ex tp w n 4 e j)
    else if m = 4 then (if isS (tk tp i) 43 = true then exJ (exO (ex tp w n 5 e (i + 1)) (-9)) (fun j => ex tp w n 4 e j) else if isS (tk tp i) 45 = true then exJ (exO (ex tp w n 5 e (i + 1)) (-10)) (fun j => ex tp w n 4 e j) else (0, i, []))
    else if m = 5 then exJ (ex tp w n 7 e i) (fun j => ex tp w n 6 e j)
    else if m = 6 then (if isS (tk tp i) 42 = true then exJ (exO (ex tp w n 7 e (i + 1)) (-11)) (fun j => ex tp w n 6 e j) else (0, i, []))
    else if (tk tp i).1 = 2 then (if 5 ≤ e then (5, i, []) else (0, i + 1, [nI (tk tp i).2.2.1]))
    else if isF w (tk tp i) = true then (if 5 ≤ e then (5, i, []) else (0, i + 1, [(-1) - nI (fct w (tk tp i).2.2.1)]))
    else if isW (tk tp i) 22 = true then (if 5 ≤ e then (5, i, []) else exO (ex tp w n 7 (e + 1) (i + 1)) (-4))
    else if isS (tk tp i) 40 = true then (if 5 ≤ e then (5, i, []) else exJ (ex tp w n 0 (e + 1) (i + 1)) (fun j => if isS (tk tp j) 41 = true then (0, j + 1, []) else (1, j, [])))
    else (1, i, [])
theorem exJ_0 {r : q_xr} {k : Nat → q_xr} (h : r.1 = 0) : exJ r k = ((k r.2.1).1, (k r.2.1).2.1, r.2.2 ++ (k r.2.1).2.2) := if_pos h
theorem exJ_n {r : q_xr} {k : Nat → q_xr} (h : r.1 ≠ 0) : exJ r k = r := if_neg h
theorem exO_0 {r : q_xr} {o : Int32} (h : r.1 = 0) : exO r o = (0, r.2.1, r.2.2 ++ [o]) := if_pos h
theorem exO_n {r : q_xr} {o : Int32} (h : r.1 ≠ 0) : exO r o = r := if_neg h
section EXS
variable {tp : List Nat} {w n e i : Nat}
theorem ex0 : ex tp w (n + 1) 0 e i = exJ (ex tp w n 2 e i) (fun j => ex tp w n 1 e j) := rfl
theorem ex1 : ex tp w (n + 1) 1 e i = (if isW (tk tp i) 23 = true then exJ (exO (ex tp w n 2 e (i + 1)) (-5)) (fun j => ex tp w n 1 e j) else if isW (tk tp i) 24 = true then exJ (exO (ex tp w n 2 e (i + 1)) (-6)) (fun j => ex tp w n 1 e j) else (0, i, [])) := rfl
theorem ex2 : ex tp w (n + 1) 2 e i = exJ (ex tp w n 3 e i) (fun j => if isS (tk tp j) 60 = true then exO (ex tp w n 3 e (j + 1)) (-7) else if isS (tk tp j) 61 = true then exO (ex tp w n 3 e (j + 1)) (-8) else (0, j, [])) := rfl
theorem ex3 : ex tp w (n + 1) 3 e i = exJ (ex tp w n 5 e i) (fun j => ex tp w n 4 e j) := rfl
theorem ex4 : ex tp w (n + 1) 4 e i = (if isS (tk tp i) 43 = true then exJ (exO (ex tp w n 5 e (i + 1)) (-9)) (fun j => ex tp w n 4 e j) else if isS (tk tp i) 45 = true then exJ (exO (ex tp w n 5 e (i + 1)) (-10)) (fun j => ex tp w n 4 e j) else (0, i, [])) := rfl
theorem ex5 : ex tp w (n + 1) 5 e i = exJ (ex tp w n 7 e i) (fun j => ex tp w n 6 e j) := rfl
theorem ex6 : ex tp w (n + 1) 6 e i = (if isS (tk tp i) 42 = true then exJ (exO (ex tp w n 7 e (i + 1)) (-11)) (fun j => ex tp w n 6 e j) else (0, i, [])) := rfl
theorem ex7 : ex tp w (n + 1) 7 e i = (if (tk tp i).1 = 2 then (if 5 ≤ e then (5, i, []) else (0, i + 1, [nI (tk tp i).2.2.1]))
    else if isF w (tk tp i) = true then (if 5 ≤ e then (5, i, []) else (0, i + 1, [(-1) - nI (fct w (tk tp i).2.2.1)]))
    else if isW (tk tp i) 22 = true then (if 5 ≤ e then (5, i, []) else exO (ex tp w n 7 (e + 1) (i + 1)) (-4))
    else if isS (tk tp i) 40 = true then (if 5 ≤ e then (5, i, []) else exJ (ex tp w n 0 (e + 1) (i + 1)) (fun j => if isS (tk tp j) 41 = true then (0, j + 1, []) else (1, j, [])))
    else (1, i, [])) := rfl
end EXS
-- what is kept by it
def okx (M i : Nat) (r : q_xr) : Prop := i ≤ r.2.1 ∧ r.2.1 ≤ M ∧ (r.1 = 0 → r.2.2.length + i ≤ r.2.1)
def oky (M i : Nat) (r : q_xr) : Prop := okx M i r ∧ (r.1 = 0 → i < r.2.1)
theorem okx.j {M i : Nat} {r : q_xr} {k : Nat → q_xr} (h : okx M i r) (hk : r.1 = 0 → okx M r.2.1 (k r.2.1)) : okx M i (exJ r k) := by
  by_cases c : r.1 = 0
  · rw [exJ_0 c]
    obtain ⟨a1, a2, a3⟩ := hk c
    refine ⟨Nat.le_trans h.1 a1, a2, fun z => ?_⟩
    have a3 := a3 z
    have := h.2.2 c
    show (r.2.2 ++ (k r.2.1).2.2).length + i ≤ (k r.2.1).2.1
    rw [List.length_append]
    omega
  · rw [exJ_n c]; exact h
theorem oky.j {M i : Nat} {r : q_xr} {k : Nat → q_xr} (h : oky M i r) (hk : r.1 = 0 → okx M r.2.1 (k r.2.1)) : oky M i (exJ r k) := by
  refine ⟨h.1.j hk, ?_⟩
  by_cases c : r.1 = 0
  · rw [exJ_0 c]
    intro _
    exact Nat.lt_of_lt_of_le (h.2 c) (hk c).1
  · rw [exJ_n c]
    intro z
    exact absurd z c
theorem okx.o {M i : Nat} {r : q_xr} {o : Int32} (h : okx M (i + 1) r) : oky M i (exO r o) := by
  obtain ⟨h1, h2, h3⟩ := h
  by_cases c : r.1 = 0
  · rw [exO_0 c]
    refine ⟨⟨by show i ≤ r.2.1; omega, h2, fun _ => ?_⟩, fun _ => by show i < r.2.1; omega⟩
    have := h3 c
    show (r.2.2 ++ [o]).length + i ≤ r.2.1
    rw [List.length_append]
    show r.2.2.length + 1 + i ≤ r.2.1
    omega
  · rw [exO_n c]
    exact ⟨⟨by omega, h2, fun z => absurd z c⟩, fun z => absurd z c⟩
theorem tk_w {tp : List Nat} {M i w : Nat} (hM : IsM tp M) (hi : i ≤ M) (h : isW (tk tp i) w = true) : i < M := tk_in hM hi (by rw [(isW_t.mp h).1]; decide)
theorem tk_s {tp : List Nat} {M i w : Nat} (hM : IsM tp M) (hi : i ≤ M) (h : isS (tk tp i) w = true) : i < M := tk_in hM hi (by rw [(isS_t.mp h).1]; decide)
theorem isF_t {w : Nat} {T : q_tk} : isF w T = true ↔ T.1 = 1 ∧ fct w T.2.2.1 < 3 := by unfold isF; rw [decide_eq_true_eq]
theorem ex_ok {tp : List Nat} {w M : Nat} (hM : IsM tp M) : ∀ n e i, i ≤ M → oky M i (ex tp w n 0 e i) ∧ okx M i (ex tp w n 1 e i) ∧ oky M i (ex tp w n 2 e i) ∧ oky M i (ex tp w n 3 e i) ∧ okx M i (ex tp w n 4 e i) ∧ oky M i (ex tp w n 5 e i) ∧ okx M i (ex tp w n 6 e i) ∧ oky M i (ex tp w n 7 e i)
  | 0, e, i, hi => by
    have h : oky M i (9, i, []) := ⟨⟨Nat.le_refl _, hi, fun z => absurd (show (9 : Nat) = 0 from z) (by decide)⟩, fun z => absurd (show (9 : Nat) = 0 from z) (by decide)⟩
    exact ⟨h, h.1, h, h, h.1, h, h.1, h⟩
  | n + 1, e, i, hi => by
    have ih := ex_ok (w := w) hM n
    have z0 : ∀ j, j ≤ M → okx M j (0, j, []) := fun j hj => ⟨Nat.le_refl _, hj, fun _ => by show 0 + j ≤ j; omega⟩
    have zf : ∀ k, k ≠ 0 → oky M i (k, i, []) := fun k hk => ⟨⟨Nat.le_refl _, hi, fun z => absurd z hk⟩, fun z => absurd z hk⟩
    have up : ∀ {j : Nat} {r : q_xr}, okx M j r → r.2.1 ≤ M := fun h => h.2.1
    obtain ⟨i0, i1, i2, i3, i4, i5, i6, i7⟩ := ih e i hi
    refine ⟨?_, ?_, ?_, ?_, ?_, ?_, ?_, ?_⟩
    · rw [ex0]; exact i2.j (fun _ => (ih e _ i2.1.2.1).2.1)
    · rw [ex1]
      split
      · rename_i c
        have h := (ih e (i + 1) (tk_w hM hi c)).2.2.1.1.o (o := -5)
        exact h.1.j (fun _ => (ih e _ h.1.2.1).2.1)
      · split
        · rename_i c
          have h := (ih e (i + 1) (tk_w hM hi c)).2.2.1.1.o (o := -6)
          exact h.1.j (fun _ => (ih e _ h.1.2.1).2.1)
        · exact z0 i hi
    · rw [ex2]
      refine i3.j (fun _ => ?_)
      split
      · rename_i c
        exact ((ih e _ (tk_s hM i3.1.2.1 c)).2.2.2.1.1.o (o := -7)).1
      · split
        · rename_i c
          exact ((ih e _ (tk_s hM i3.1.2.1 c)).2.2.2.1.1.o (o := -8)).1
        · exact z0 _ i3.1.2.1
    · rw [ex3]; exact i5.j (fun _ => (ih e _ i5.1.2.1).2.2.2.2.1)
    · rw [ex4]
      split
      · rename_i c
        have h := (ih e (i + 1) (tk_s hM hi c)).2.2.2.2.2.1.1.o (o := -9)
        exact h.1.j (fun _ => (ih e _ h.1.2.1).2.2.2.2.1)
      · split
        · rename_i c
          have h := (ih e (i + 1) (tk_s hM hi c)).2.2.2.2.2.1.1.o (o := -10)
          exact h.1.j (fun _ => (ih e _ h.1.2.1).2.2.2.2.1)
        · exact z0 i hi
    · rw [ex5]; exact i7.j (fun _ => (ih e _ i7.1.2.1).2.2.2.2.2.2.1)
    · rw [ex6]
      split
      · rename_i c
        have h := (ih e (i + 1) (tk_s hM hi c)).2.2.2.2.2.2.2.1.o (o := -11)
        exact h.1.j (fun _ => (ih e _ h.1.2.1).2.2.2.2.2.2.1)
      · exact z0 i hi
    · rw [ex7]
      have one : ∀ x : Int32, i < M → oky M i (0, i + 1, [x]) := fun x h => ⟨⟨by show i ≤ i + 1; omega, h, fun _ => by show 1 + i ≤ i + 1; omega⟩, fun _ => Nat.lt_succ_self i⟩
      split
      · rename_i c
        split
        · exact zf 5 (by decide)
        · exact one _ (tk_in hM hi (by rw [c]; decide))
      · split
        · rename_i c
          split
          · exact zf 5 (by decide)
          · exact one _ (tk_in hM hi (by rw [(isF_t.mp c).1]; decide))
        · split
          · rename_i c
            split
            · exact zf 5 (by decide)
            · exact (ih (e + 1) (i + 1) (tk_w hM hi c)).2.2.2.2.2.2.2.1.o
          · split
            · rename_i c
              split
              · exact zf 5 (by decide)
              · have h := (ih (e + 1) (i + 1) (tk_s hM hi c)).1
                have g : okx M (i + 1) (exJ (ex tp w n 0 (e + 1) (i + 1)) (fun j => if isS (tk tp j) 41 = true then (0, j + 1, []) else (1, j, []))) := by
                  refine h.1.j (fun _ => ?_)
                  split
                  · rename_i c2
                    exact ⟨Nat.le_succ _, tk_s hM h.1.2.1 c2, fun _ => by show 0 + _ ≤ _ + 1; omega⟩
                  · exact ⟨Nat.le_refl _, h.1.2.1, fun z => absurd (show (1 : Nat) = 0 from z) (by decide)⟩
                exact ⟨⟨by have := g.1; omega, g.2.1, fun z => by have := g.2.2 z; omega⟩, fun z => by have := g.1; omega⟩
            · exact zf 1 (by decide)
