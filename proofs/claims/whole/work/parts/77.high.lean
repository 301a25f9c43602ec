-- how high the stack stands by a law that was read
theorem hgl_app : ∀ (p q : List Int32) (h : Nat), hgl (p ++ q) h = match hgl p h with
    | some h' => hgl q h'
    | none => none
  | [], q, h => rfl
  | s :: p, q, h => by
    show (match hg1 s h with | some h' => hgl (p ++ q) h' | none => none) = _
    rw [hgl]
    cases hg1 s h with
    | none => rfl
    | some h' => exact hgl_app p q h'
theorem hgl_s {p q : List Int32} {a b c : Nat} (h1 : hgl p a = some b) (h2 : hgl q b = some c) : hgl (p ++ q) a = some c := by rw [hgl_app, h1]; exact h2
theorem hgl_1 {s : Int32} {a b : Nat} (h : hg1 s a = some b) : hgl [s] a = some b := by
  show (match hg1 s a with | some h' => hgl [] h' | none => none) = _
  rw [h]
  rfl
theorem hgl_J {r : q_xr} {k : Nat → q_xr} {a b c : Nat} (hr : r.1 = 0 → hgl r.2.2 a = some b) (hk : r.1 = 0 → (k r.2.1).1 = 0 → hgl (k r.2.1).2.2 b = some c) : (exJ r k).1 = 0 → hgl (exJ r k).2.2 a = some c := by
  by_cases h : r.1 = 0
  · rw [exJ_0 h]
    exact fun z => hgl_s (hr h) (hk h z)
  · rw [exJ_n h]
    exact fun z => absurd z h
theorem hgl_O {r : q_xr} {o : Int32} {a b c : Nat} (hr : r.1 = 0 → hgl r.2.2 a = some b) (ho : hg1 o b = some c) : (exO r o).1 = 0 → hgl (exO r o).2.2 a = some c := by
  by_cases h : r.1 = 0
  · rw [exO_0 h]
    exact fun _ => hgl_s (hr h) (hgl_1 ho)
  · rw [exO_n h]
    exact fun z => absurd z h
theorem hg1_b {o : Int32} {h : Nat} (h1 : ¬ 0 ≤ o) (h2 : ¬ -3 ≤ o) (h3 : ¬ o = -4) : hg1 o (h + 2) = some (h + 1) := by
  unfold hg1
  rw [if_neg h1, if_neg h2, if_neg h3, if_pos (by omega)]
  rfl
theorem hg1_n {v h : Nat} (hv : v < 2 ^ 31) (hh : h < 32) : hg1 (nI v) h = some (h + 1) := by
  unfold hg1
  rw [if_pos (nI_pos' hv), if_pos hh]
theorem hg1_f {k h : Nat} (hk : k < 3) (hh : h < 32) : hg1 ((-1) - nI k) h = some (h + 1) := by
  have e := (by decide +kernel : ∀ k, k < 3 → (¬ (0 : Int32) ≤ (-1) - nI k) ∧ (-3 : Int32) ≤ (-1) - nI k) k hk
  unfold hg1
  rw [if_neg e.1, if_pos e.2, if_pos hh]
theorem hg1_4 {h : Nat} : hg1 (-4) (h + 1) = some (h + 1) := by
  unfold hg1
  rw [if_neg (by decide), if_neg (by decide), if_pos rfl, if_pos (by omega)]
theorem ex_h {tp : List Nat} {w : Nat} : ∀ n e i, e ≤ 5 →
    (∀ h, h ≤ 4 * e → (ex tp w n 0 e i).1 = 0 → hgl (ex tp w n 0 e i).2.2 h = some (h + 1)) ∧
    (∀ h, h ≤ 4 * e → (ex tp w n 1 e i).1 = 0 → hgl (ex tp w n 1 e i).2.2 (h + 1) = some (h + 1)) ∧
    (∀ h, h ≤ 4 * e + 1 → (ex tp w n 2 e i).1 = 0 → hgl (ex tp w n 2 e i).2.2 h = some (h + 1)) ∧
    (∀ h, h ≤ 4 * e + 2 → (ex tp w n 3 e i).1 = 0 → hgl (ex tp w n 3 e i).2.2 h = some (h + 1)) ∧
    (∀ h, h ≤ 4 * e + 2 → (ex tp w n 4 e i).1 = 0 → hgl (ex tp w n 4 e i).2.2 (h + 1) = some (h + 1)) ∧
    (∀ h, h ≤ 4 * e + 3 → (ex tp w n 5 e i).1 = 0 → hgl (ex tp w n 5 e i).2.2 h = some (h + 1)) ∧
    (∀ h, h ≤ 4 * e + 3 → (ex tp w n 6 e i).1 = 0 → hgl (ex tp w n 6 e i).2.2 (h + 1) = some (h + 1)) ∧
    (∀ h, h ≤ 4 * e + 4 → (ex tp w n 7 e i).1 = 0 → hgl (ex tp w n 7 e i).2.2 h = some (h + 1))
  | 0, e, i, _ => by
    have z : ∀ {P : Prop}, ((9, i, []) : q_xr).1 = 0 → P := fun h => absurd (show (9 : Nat) = 0 from h) (by decide)
    exact ⟨fun h _ q => z q, fun h _ q => z q, fun h _ q => z q, fun h _ q => z q, fun h _ q => z q, fun h _ q => z q, fun h _ q => z q, fun h _ q => z q⟩
  | n + 1, e, i, he => by
    have ih := ex_h (tp := tp) (w := w) n
    refine ⟨fun h hh => ?_, fun h hh => ?_, fun h hh => ?_, fun h hh => ?_, fun h hh => ?_, fun h hh => ?_, fun h hh => ?_, fun h hh => ?_⟩
    · rw [ex0]
      exact hgl_J ((ih e i he).2.2.1 h (by omega)) (fun _ => (ih e _ he).2.1 h hh)
    · rw [ex1]
      split
      · exact hgl_J (hgl_O ((ih e _ he).2.2.1 (h + 1) (by omega)) (hg1_b (by decide) (by decide) (by decide))) (fun _ => (ih e _ he).2.1 h hh)
      · split
        · exact hgl_J (hgl_O ((ih e _ he).2.2.1 (h + 1) (by omega)) (hg1_b (by decide) (by decide) (by decide))) (fun _ => (ih e _ he).2.1 h hh)
        · exact fun _ => rfl
    · rw [ex2]
      refine hgl_J ((ih e i he).2.2.2.1 h (by omega)) (fun _ => ?_)
      split
      · exact hgl_O ((ih e _ he).2.2.2.1 (h + 1) (by omega)) (hg1_b (by decide) (by decide) (by decide))
      · split
        · exact hgl_O ((ih e _ he).2.2.2.1 (h + 1) (by omega)) (hg1_b (by decide) (by decide) (by decide))
        · exact fun _ => rfl
    · rw [ex3]
      exact hgl_J ((ih e i he).2.2.2.2.2.1 h (by omega)) (fun _ => (ih e _ he).2.2.2.2.1 h hh)
    · rw [ex4]
      split
      · exact hgl_J (hgl_O ((ih e _ he).2.2.2.2.2.1 (h + 1) (by omega)) (hg1_b (by decide) (by decide) (by decide))) (fun _ => (ih e _ he).2.2.2.2.1 h hh)
      · split
        · exact hgl_J (hgl_O ((ih e _ he).2.2.2.2.2.1 (h + 1) (by omega)) (hg1_b (by decide) (by decide) (by decide))) (fun _ => (ih e _ he).2.2.2.2.1 h hh)
        · exact fun _ => rfl
    · rw [ex5]
      exact hgl_J ((ih e i he).2.2.2.2.2.2.2 h (by omega)) (fun _ => (ih e _ he).2.2.2.2.2.2.1 h hh)
    · rw [ex6]
      split
      · exact hgl_J (hgl_O ((ih e _ he).2.2.2.2.2.2.2 (h + 1) (by omega)) (hg1_b (by decide) (by decide) (by decide))) (fun _ => (ih e _ he).2.2.2.2.2.2.1 h hh)
      · exact fun _ => rfl
    · rw [ex7]
      have z5 : ∀ {P : Prop}, ((5, i, []) : q_xr).1 = 0 → P := fun h => absurd (show (5 : Nat) = 0 from h) (by decide)
      have z1 : ∀ {P : Prop} {j : Nat}, ((1, j, []) : q_xr).1 = 0 → P := fun h => absurd (show (1 : Nat) = 0 from h) (by decide)
      split
      · rename_i c
        have hv := tkA_n c
        have hv : (tk tp i).2.2.1 < 10000 := hv
        split
        · exact fun z => z5 z
        · exact fun _ => hgl_1 (hg1_n (by omega) (by omega))
      · split
        · rename_i c
          split
          · exact fun z => z5 z
          · exact fun _ => hgl_1 (hg1_f (isF_t.mp c).2 (by omega))
        · split
          · split
            · exact fun z => z5 z
            · exact hgl_O ((ih (e + 1) _ (by omega)).2.2.2.2.2.2.2 h (by omega)) hg1_4
          · split
            · split
              · exact fun z => z5 z
              · refine hgl_J ((ih (e + 1) _ (by omega)).1 h (by omega)) (fun _ => ?_)
                split
                · exact fun _ => rfl
                · exact fun z => z1 z
            · exact fun z => z1 z
theorem ex_wf {tp : List Nat} {w n i : Nat} (h : (ex tp w n 0 0 i).1 = 0) : hgl (ex tp w n 0 0 i).2.2 0 = some 1 := (ex_h n 0 i (by decide)).1 0 (by decide) h
